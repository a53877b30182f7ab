theorem bw_cX11_odd_0 : dq_w cX11_odd 0 [42, 180, 0, 19, 42, 180, 0, 19, 182, 1, 17, 182, 1, 20, 60, 42, 180, 0, 26, 27, 182, 0, 224, 27, 184, 1, 23] = true := by decide +kernel
theorem dX11_odd_0 : decode cX11_odd 0 = .ok (.aload_n 0, 1) := dq42 bw_cX11_odd_0 0 rfl rfl
theorem dX11_odd_1 : decode cX11_odd 1 = .ok (.getfield 19, 3) := dq180 bw_cX11_odd_0 1 rfl rfl rfl
theorem dX11_odd_4 : decode cX11_odd 4 = .ok (.aload_n 0, 1) := dq42 bw_cX11_odd_0 4 rfl rfl
theorem dX11_odd_5 : decode cX11_odd 5 = .ok (.getfield 19, 3) := dq180 bw_cX11_odd_0 5 rfl rfl rfl
theorem dX11_odd_8 : decode cX11_odd 8 = .ok (.invokevirtual 273, 3) := dq182 bw_cX11_odd_0 8 rfl rfl rfl
theorem dX11_odd_11 : decode cX11_odd 11 = .ok (.invokevirtual 276, 3) := dq182 bw_cX11_odd_0 11 rfl rfl rfl
theorem dX11_odd_14 : decode cX11_odd 14 = .ok (.istore_n 1, 1) := dq60 bw_cX11_odd_0 14 rfl rfl
theorem dX11_odd_15 : decode cX11_odd 15 = .ok (.aload_n 0, 1) := dq42 bw_cX11_odd_0 15 rfl rfl
theorem dX11_odd_16 : decode cX11_odd 16 = .ok (.getfield 26, 3) := dq180 bw_cX11_odd_0 16 rfl rfl rfl
theorem dX11_odd_19 : decode cX11_odd 19 = .ok (.iload_n 1, 1) := dq27 bw_cX11_odd_0 19 rfl rfl
theorem dX11_odd_20 : decode cX11_odd 20 = .ok (.invokevirtual 224, 3) := dq182 bw_cX11_odd_0 20 rfl rfl rfl
theorem dX11_odd_23 : decode cX11_odd 23 = .ok (.iload_n 1, 1) := dq27 bw_cX11_odd_0 23 rfl rfl
theorem bw_cX11_odd_1 : dq_w cX11_odd 24 [184, 1, 23, 172] = true := by decide +kernel
theorem dX11_odd_24 : decode cX11_odd 24 = .ok (.invokestatic 279, 3) := dq184 bw_cX11_odd_1 0 rfl rfl rfl
theorem dX11_odd_27 : decode cX11_odd 27 = .ok (.ireturn, 1) := dq172 bw_cX11_odd_1 3 rfl rfl
theorem bw_cX2_hanging_0 : dq_w cX2_hanging 0 [4, 27, 120, 62, 3, 54, 4, 3, 54, 5, 21, 5, 16, 10, 162, 0, 65, 29, 21, 4, 159, 0, 59, 29, 54, 4, 3] = true := by decide +kernel
theorem dX2_hanging_0 : decode cX2_hanging 0 = .ok (.iconst 1, 1) := dq4 bw_cX2_hanging_0 0 rfl rfl
theorem dX2_hanging_1 : decode cX2_hanging 1 = .ok (.iload_n 1, 1) := dq27 bw_cX2_hanging_0 1 rfl rfl
theorem dX2_hanging_2 : decode cX2_hanging 2 = .ok (.ishl, 1) := dq120 bw_cX2_hanging_0 2 rfl rfl
theorem dX2_hanging_3 : decode cX2_hanging 3 = .ok (.istore_n 3, 1) := dq62 bw_cX2_hanging_0 3 rfl rfl
theorem dX2_hanging_4 : decode cX2_hanging 4 = .ok (.iconst 0, 1) := dq3 bw_cX2_hanging_0 4 rfl rfl
theorem dX2_hanging_5 : decode cX2_hanging 5 = .ok (.istore 4, 2) := dq54 bw_cX2_hanging_0 5 rfl rfl
theorem dX2_hanging_7 : decode cX2_hanging 7 = .ok (.iconst 0, 1) := dq3 bw_cX2_hanging_0 7 rfl rfl
theorem dX2_hanging_8 : decode cX2_hanging 8 = .ok (.istore 5, 2) := dq54 bw_cX2_hanging_0 8 rfl rfl
theorem dX2_hanging_10 : decode cX2_hanging 10 = .ok (.iload 5, 2) := dq21 bw_cX2_hanging_0 10 rfl rfl
theorem dX2_hanging_12 : decode cX2_hanging 12 = .ok (.bipush 10, 2) := dq16 bw_cX2_hanging_0 12 rfl rfl rfl
theorem dX2_hanging_14 : decode cX2_hanging 14 = .ok (.if_icmp .ge 65, 3) := dq162 bw_cX2_hanging_0 14 rfl rfl rfl
theorem dX2_hanging_17 : decode cX2_hanging 17 = .ok (.iload_n 3, 1) := dq29 bw_cX2_hanging_0 17 rfl rfl
theorem dX2_hanging_18 : decode cX2_hanging 18 = .ok (.iload 4, 2) := dq21 bw_cX2_hanging_0 18 rfl rfl
theorem dX2_hanging_20 : decode cX2_hanging 20 = .ok (.if_icmp .eq 59, 3) := dq159 bw_cX2_hanging_0 20 rfl rfl rfl
theorem dX2_hanging_23 : decode cX2_hanging 23 = .ok (.iload_n 3, 1) := dq29 bw_cX2_hanging_0 23 rfl rfl
theorem bw_cX2_hanging_1 : dq_w cX2_hanging 24 [54, 4, 3, 54, 6, 21, 6, 42, 180, 0, 15, 162, 0, 38, 28, 21, 6, 122, 4, 126, 153, 0, 23, 29, 42, 21, 6] = true := by decide +kernel
theorem dX2_hanging_24 : decode cX2_hanging 24 = .ok (.istore 4, 2) := dq54 bw_cX2_hanging_1 0 rfl rfl
theorem dX2_hanging_26 : decode cX2_hanging 26 = .ok (.iconst 0, 1) := dq3 bw_cX2_hanging_1 2 rfl rfl
theorem dX2_hanging_27 : decode cX2_hanging 27 = .ok (.istore 6, 2) := dq54 bw_cX2_hanging_1 3 rfl rfl
theorem dX2_hanging_29 : decode cX2_hanging 29 = .ok (.iload 6, 2) := dq21 bw_cX2_hanging_1 5 rfl rfl
theorem dX2_hanging_31 : decode cX2_hanging 31 = .ok (.aload_n 0, 1) := dq42 bw_cX2_hanging_1 7 rfl rfl
theorem dX2_hanging_32 : decode cX2_hanging 32 = .ok (.getfield 15, 3) := dq180 bw_cX2_hanging_1 8 rfl rfl rfl
theorem dX2_hanging_35 : decode cX2_hanging 35 = .ok (.if_icmp .ge 38, 3) := dq162 bw_cX2_hanging_1 11 rfl rfl rfl
theorem dX2_hanging_38 : decode cX2_hanging 38 = .ok (.iload_n 2, 1) := dq28 bw_cX2_hanging_1 14 rfl rfl
theorem dX2_hanging_39 : decode cX2_hanging 39 = .ok (.iload 6, 2) := dq21 bw_cX2_hanging_1 15 rfl rfl
theorem dX2_hanging_41 : decode cX2_hanging 41 = .ok (.ishr, 1) := dq122 bw_cX2_hanging_1 17 rfl rfl
theorem dX2_hanging_42 : decode cX2_hanging 42 = .ok (.iconst 1, 1) := dq4 bw_cX2_hanging_1 18 rfl rfl
theorem dX2_hanging_43 : decode cX2_hanging 43 = .ok (.iand, 1) := dq126 bw_cX2_hanging_1 19 rfl rfl
theorem dX2_hanging_44 : decode cX2_hanging 44 = .ok (.ifCond .eq 23, 3) := dq153 bw_cX2_hanging_1 20 rfl rfl rfl
theorem dX2_hanging_47 : decode cX2_hanging 47 = .ok (.iload_n 3, 1) := dq29 bw_cX2_hanging_1 23 rfl rfl
theorem bw_cX2_hanging_2 : dq_w cX2_hanging 48 [42, 21, 6, 182, 0, 62, 126, 153, 0, 12, 29, 42, 21, 6, 182, 0, 62, 128, 62, 132, 6, 1, 167, 255, 215, 132, 5] = true := by decide +kernel
theorem dX2_hanging_48 : decode cX2_hanging 48 = .ok (.aload_n 0, 1) := dq42 bw_cX2_hanging_2 0 rfl rfl
theorem dX2_hanging_49 : decode cX2_hanging 49 = .ok (.iload 6, 2) := dq21 bw_cX2_hanging_2 1 rfl rfl
theorem dX2_hanging_51 : decode cX2_hanging 51 = .ok (.invokevirtual 62, 3) := dq182 bw_cX2_hanging_2 3 rfl rfl rfl
theorem dX2_hanging_54 : decode cX2_hanging 54 = .ok (.iand, 1) := dq126 bw_cX2_hanging_2 6 rfl rfl
theorem dX2_hanging_55 : decode cX2_hanging 55 = .ok (.ifCond .eq 12, 3) := dq153 bw_cX2_hanging_2 7 rfl rfl rfl
theorem dX2_hanging_58 : decode cX2_hanging 58 = .ok (.iload_n 3, 1) := dq29 bw_cX2_hanging_2 10 rfl rfl
theorem dX2_hanging_59 : decode cX2_hanging 59 = .ok (.aload_n 0, 1) := dq42 bw_cX2_hanging_2 11 rfl rfl
theorem dX2_hanging_60 : decode cX2_hanging 60 = .ok (.iload 6, 2) := dq21 bw_cX2_hanging_2 12 rfl rfl
theorem dX2_hanging_62 : decode cX2_hanging 62 = .ok (.invokevirtual 62, 3) := dq182 bw_cX2_hanging_2 14 rfl rfl rfl
theorem dX2_hanging_65 : decode cX2_hanging 65 = .ok (.ior, 1) := dq128 bw_cX2_hanging_2 17 rfl rfl
theorem dX2_hanging_66 : decode cX2_hanging 66 = .ok (.istore_n 3, 1) := dq62 bw_cX2_hanging_2 18 rfl rfl
theorem dX2_hanging_67 : decode cX2_hanging 67 = .ok (.iinc 6 1, 3) := dq132 bw_cX2_hanging_2 19 rfl rfl rfl
theorem dX2_hanging_70 : decode cX2_hanging 70 = .ok (.goto (-41), 3) := dq167 bw_cX2_hanging_2 22 rfl rfl rfl
theorem bw_cX2_hanging_3 : dq_w cX2_hanging 72 [215, 132, 5, 1, 167, 255, 190, 29, 172] = true := by decide +kernel
theorem dX2_hanging_73 : decode cX2_hanging 73 = .ok (.iinc 5 1, 3) := dq132 bw_cX2_hanging_3 1 rfl rfl rfl
theorem dX2_hanging_76 : decode cX2_hanging 76 = .ok (.goto (-66), 3) := dq167 bw_cX2_hanging_3 4 rfl rfl rfl
theorem dX2_hanging_79 : decode cX2_hanging 79 = .ok (.iload_n 3, 1) := dq29 bw_cX2_hanging_3 7 rfl rfl
theorem dX2_hanging_80 : decode cX2_hanging 80 = .ok (.ireturn, 1) := dq172 bw_cX2_hanging_3 8 rfl rfl
theorem bw_cX11_men_0 : dq_w cX11_men 0 [42, 180, 0, 19, 42, 180, 0, 19, 182, 1, 17, 182, 1, 20, 60, 3, 61, 3, 62, 3, 54, 4, 3, 54, 5, 21, 5] = true := by decide +kernel
theorem dX11_men_0 : decode cX11_men 0 = .ok (.aload_n 0, 1) := dq42 bw_cX11_men_0 0 rfl rfl
theorem dX11_men_1 : decode cX11_men 1 = .ok (.getfield 19, 3) := dq180 bw_cX11_men_0 1 rfl rfl rfl
theorem dX11_men_4 : decode cX11_men 4 = .ok (.aload_n 0, 1) := dq42 bw_cX11_men_0 4 rfl rfl
theorem dX11_men_5 : decode cX11_men 5 = .ok (.getfield 19, 3) := dq180 bw_cX11_men_0 5 rfl rfl rfl
theorem dX11_men_8 : decode cX11_men 8 = .ok (.invokevirtual 273, 3) := dq182 bw_cX11_men_0 8 rfl rfl rfl
theorem dX11_men_11 : decode cX11_men 11 = .ok (.invokevirtual 276, 3) := dq182 bw_cX11_men_0 11 rfl rfl rfl
theorem dX11_men_14 : decode cX11_men 14 = .ok (.istore_n 1, 1) := dq60 bw_cX11_men_0 14 rfl rfl
theorem dX11_men_15 : decode cX11_men 15 = .ok (.iconst 0, 1) := dq3 bw_cX11_men_0 15 rfl rfl
theorem dX11_men_16 : decode cX11_men 16 = .ok (.istore_n 2, 1) := dq61 bw_cX11_men_0 16 rfl rfl
theorem dX11_men_17 : decode cX11_men 17 = .ok (.iconst 0, 1) := dq3 bw_cX11_men_0 17 rfl rfl
theorem dX11_men_18 : decode cX11_men 18 = .ok (.istore_n 3, 1) := dq62 bw_cX11_men_0 18 rfl rfl
theorem dX11_men_19 : decode cX11_men 19 = .ok (.iconst 0, 1) := dq3 bw_cX11_men_0 19 rfl rfl
theorem dX11_men_20 : decode cX11_men 20 = .ok (.istore 4, 2) := dq54 bw_cX11_men_0 20 rfl rfl
theorem dX11_men_22 : decode cX11_men 22 = .ok (.iconst 0, 1) := dq3 bw_cX11_men_0 22 rfl rfl
theorem dX11_men_23 : decode cX11_men 23 = .ok (.istore 5, 2) := dq54 bw_cX11_men_0 23 rfl rfl
theorem bw_cX11_men_1 : dq_w cX11_men 24 [5, 21, 5, 42, 180, 0, 19, 180, 0, 168, 162, 0, 78, 28, 42, 180, 0, 19, 180, 0, 115, 21, 5, 46, 122, 4, 126] = true := by decide +kernel
theorem dX11_men_25 : decode cX11_men 25 = .ok (.iload 5, 2) := dq21 bw_cX11_men_1 1 rfl rfl
theorem dX11_men_27 : decode cX11_men 27 = .ok (.aload_n 0, 1) := dq42 bw_cX11_men_1 3 rfl rfl
theorem dX11_men_28 : decode cX11_men 28 = .ok (.getfield 19, 3) := dq180 bw_cX11_men_1 4 rfl rfl rfl
theorem dX11_men_31 : decode cX11_men 31 = .ok (.getfield 168, 3) := dq180 bw_cX11_men_1 7 rfl rfl rfl
theorem dX11_men_34 : decode cX11_men 34 = .ok (.if_icmp .ge 78, 3) := dq162 bw_cX11_men_1 10 rfl rfl rfl
theorem dX11_men_37 : decode cX11_men 37 = .ok (.iload_n 2, 1) := dq28 bw_cX11_men_1 13 rfl rfl
theorem dX11_men_38 : decode cX11_men 38 = .ok (.aload_n 0, 1) := dq42 bw_cX11_men_1 14 rfl rfl
theorem dX11_men_39 : decode cX11_men 39 = .ok (.getfield 19, 3) := dq180 bw_cX11_men_1 15 rfl rfl rfl
theorem dX11_men_42 : decode cX11_men 42 = .ok (.getfield 115, 3) := dq180 bw_cX11_men_1 18 rfl rfl rfl
theorem dX11_men_45 : decode cX11_men 45 = .ok (.iload 5, 2) := dq21 bw_cX11_men_1 21 rfl rfl
theorem dX11_men_47 : decode cX11_men 47 = .ok (.iaload, 1) := dq46 bw_cX11_men_1 23 rfl rfl
theorem bw_cX11_men_2 : dq_w cX11_men 48 [122, 4, 126, 154, 0, 55, 42, 180, 0, 19, 42, 180, 0, 19, 180, 0, 115, 21, 5, 46, 42, 180, 0, 19, 182, 1, 17] = true := by decide +kernel
theorem dX11_men_48 : decode cX11_men 48 = .ok (.ishr, 1) := dq122 bw_cX11_men_2 0 rfl rfl
theorem dX11_men_49 : decode cX11_men 49 = .ok (.iconst 1, 1) := dq4 bw_cX11_men_2 1 rfl rfl
theorem dX11_men_50 : decode cX11_men 50 = .ok (.iand, 1) := dq126 bw_cX11_men_2 2 rfl rfl
theorem dX11_men_51 : decode cX11_men 51 = .ok (.ifCond .ne 55, 3) := dq154 bw_cX11_men_2 3 rfl rfl rfl
theorem dX11_men_54 : decode cX11_men 54 = .ok (.aload_n 0, 1) := dq42 bw_cX11_men_2 6 rfl rfl
theorem dX11_men_55 : decode cX11_men 55 = .ok (.getfield 19, 3) := dq180 bw_cX11_men_2 7 rfl rfl rfl
theorem dX11_men_58 : decode cX11_men 58 = .ok (.aload_n 0, 1) := dq42 bw_cX11_men_2 10 rfl rfl
theorem dX11_men_59 : decode cX11_men 59 = .ok (.getfield 19, 3) := dq180 bw_cX11_men_2 11 rfl rfl rfl
theorem dX11_men_62 : decode cX11_men 62 = .ok (.getfield 115, 3) := dq180 bw_cX11_men_2 14 rfl rfl rfl
theorem dX11_men_65 : decode cX11_men 65 = .ok (.iload 5, 2) := dq21 bw_cX11_men_2 17 rfl rfl
theorem dX11_men_67 : decode cX11_men 67 = .ok (.iaload, 1) := dq46 bw_cX11_men_2 19 rfl rfl
theorem dX11_men_68 : decode cX11_men 68 = .ok (.aload_n 0, 1) := dq42 bw_cX11_men_2 20 rfl rfl
theorem dX11_men_69 : decode cX11_men 69 = .ok (.getfield 19, 3) := dq180 bw_cX11_men_2 21 rfl rfl rfl
theorem bw_cX11_men_3 : dq_w cX11_men 72 [182, 1, 17, 182, 1, 28, 54, 6, 28, 21, 6, 128, 61, 132, 3, 1, 21, 4, 4, 21, 6, 27, 126, 184, 1, 23, 5] = true := by decide +kernel
theorem dX11_men_72 : decode cX11_men 72 = .ok (.invokevirtual 273, 3) := dq182 bw_cX11_men_3 0 rfl rfl rfl
theorem dX11_men_75 : decode cX11_men 75 = .ok (.invokevirtual 284, 3) := dq182 bw_cX11_men_3 3 rfl rfl rfl
theorem dX11_men_78 : decode cX11_men 78 = .ok (.istore 6, 2) := dq54 bw_cX11_men_3 6 rfl rfl
theorem dX11_men_80 : decode cX11_men 80 = .ok (.iload_n 2, 1) := dq28 bw_cX11_men_3 8 rfl rfl
theorem dX11_men_81 : decode cX11_men 81 = .ok (.iload 6, 2) := dq21 bw_cX11_men_3 9 rfl rfl
theorem dX11_men_83 : decode cX11_men 83 = .ok (.ior, 1) := dq128 bw_cX11_men_3 11 rfl rfl
theorem dX11_men_84 : decode cX11_men 84 = .ok (.istore_n 2, 1) := dq61 bw_cX11_men_3 12 rfl rfl
theorem dX11_men_85 : decode cX11_men 85 = .ok (.iinc 3 1, 3) := dq132 bw_cX11_men_3 13 rfl rfl rfl
theorem dX11_men_88 : decode cX11_men 88 = .ok (.iload 4, 2) := dq21 bw_cX11_men_3 16 rfl rfl
theorem dX11_men_90 : decode cX11_men 90 = .ok (.iconst 1, 1) := dq4 bw_cX11_men_3 18 rfl rfl
theorem dX11_men_91 : decode cX11_men 91 = .ok (.iload 6, 2) := dq21 bw_cX11_men_3 19 rfl rfl
theorem dX11_men_93 : decode cX11_men 93 = .ok (.iload_n 1, 1) := dq27 bw_cX11_men_3 21 rfl rfl
theorem dX11_men_94 : decode cX11_men 94 = .ok (.iand, 1) := dq126 bw_cX11_men_3 22 rfl rfl
theorem dX11_men_95 : decode cX11_men 95 = .ok (.invokestatic 279, 3) := dq184 bw_cX11_men_3 23 rfl rfl rfl
theorem bw_cX11_men_4 : dq_w cX11_men 96 [1, 23, 5, 108, 184, 0, 179, 96, 54, 4, 132, 5, 1, 167, 255, 172, 42, 180, 0, 26, 29, 182, 0, 224, 21, 4, 172] = true := by decide +kernel
theorem dX11_men_98 : decode cX11_men 98 = .ok (.iconst 2, 1) := dq5 bw_cX11_men_4 2 rfl rfl
theorem dX11_men_99 : decode cX11_men 99 = .ok (.idiv, 1) := dq108 bw_cX11_men_4 3 rfl rfl
theorem dX11_men_100 : decode cX11_men 100 = .ok (.invokestatic 179, 3) := dq184 bw_cX11_men_4 4 rfl rfl rfl
theorem dX11_men_103 : decode cX11_men 103 = .ok (.iadd, 1) := dq96 bw_cX11_men_4 7 rfl rfl
theorem dX11_men_104 : decode cX11_men 104 = .ok (.istore 4, 2) := dq54 bw_cX11_men_4 8 rfl rfl
theorem dX11_men_106 : decode cX11_men 106 = .ok (.iinc 5 1, 3) := dq132 bw_cX11_men_4 10 rfl rfl rfl
theorem dX11_men_109 : decode cX11_men 109 = .ok (.goto (-84), 3) := dq167 bw_cX11_men_4 13 rfl rfl rfl
theorem dX11_men_112 : decode cX11_men 112 = .ok (.aload_n 0, 1) := dq42 bw_cX11_men_4 16 rfl rfl
theorem dX11_men_113 : decode cX11_men 113 = .ok (.getfield 26, 3) := dq180 bw_cX11_men_4 17 rfl rfl rfl
theorem dX11_men_116 : decode cX11_men 116 = .ok (.iload_n 3, 1) := dq29 bw_cX11_men_4 20 rfl rfl
theorem dX11_men_117 : decode cX11_men 117 = .ok (.invokevirtual 224, 3) := dq182 bw_cX11_men_4 21 rfl rfl rfl
theorem bw_cX11_men_5 : dq_w cX11_men 120 [21, 4, 172] = true := by decide +kernel
theorem dX11_men_120 : decode cX11_men 120 = .ok (.iload 4, 2) := dq21 bw_cX11_men_5 0 rfl rfl
theorem dX11_men_122 : decode cX11_men 122 = .ok (.ireturn, 1) := dq172 bw_cX11_men_5 2 rfl rfl
theorem bw_cX2_holdsAll_0 : dq_w cX2_holdsAll 0 [3, 62, 29, 42, 180, 0, 15, 162, 0, 32, 28, 29, 122, 4, 126, 153, 0, 18, 27, 42, 180, 0, 31, 29, 46, 122, 4] = true := by decide +kernel
theorem dX2_holdsAll_0 : decode cX2_holdsAll 0 = .ok (.iconst 0, 1) := dq3 bw_cX2_holdsAll_0 0 rfl rfl
theorem dX2_holdsAll_1 : decode cX2_holdsAll 1 = .ok (.istore_n 3, 1) := dq62 bw_cX2_holdsAll_0 1 rfl rfl
theorem dX2_holdsAll_2 : decode cX2_holdsAll 2 = .ok (.iload_n 3, 1) := dq29 bw_cX2_holdsAll_0 2 rfl rfl
theorem dX2_holdsAll_3 : decode cX2_holdsAll 3 = .ok (.aload_n 0, 1) := dq42 bw_cX2_holdsAll_0 3 rfl rfl
theorem dX2_holdsAll_4 : decode cX2_holdsAll 4 = .ok (.getfield 15, 3) := dq180 bw_cX2_holdsAll_0 4 rfl rfl rfl
theorem dX2_holdsAll_7 : decode cX2_holdsAll 7 = .ok (.if_icmp .ge 32, 3) := dq162 bw_cX2_holdsAll_0 7 rfl rfl rfl
theorem dX2_holdsAll_10 : decode cX2_holdsAll 10 = .ok (.iload_n 2, 1) := dq28 bw_cX2_holdsAll_0 10 rfl rfl
theorem dX2_holdsAll_11 : decode cX2_holdsAll 11 = .ok (.iload_n 3, 1) := dq29 bw_cX2_holdsAll_0 11 rfl rfl
theorem dX2_holdsAll_12 : decode cX2_holdsAll 12 = .ok (.ishr, 1) := dq122 bw_cX2_holdsAll_0 12 rfl rfl
theorem dX2_holdsAll_13 : decode cX2_holdsAll 13 = .ok (.iconst 1, 1) := dq4 bw_cX2_holdsAll_0 13 rfl rfl
theorem dX2_holdsAll_14 : decode cX2_holdsAll 14 = .ok (.iand, 1) := dq126 bw_cX2_holdsAll_0 14 rfl rfl
theorem dX2_holdsAll_15 : decode cX2_holdsAll 15 = .ok (.ifCond .eq 18, 3) := dq153 bw_cX2_holdsAll_0 15 rfl rfl rfl
theorem dX2_holdsAll_18 : decode cX2_holdsAll 18 = .ok (.iload_n 1, 1) := dq27 bw_cX2_holdsAll_0 18 rfl rfl
theorem dX2_holdsAll_19 : decode cX2_holdsAll 19 = .ok (.aload_n 0, 1) := dq42 bw_cX2_holdsAll_0 19 rfl rfl
theorem dX2_holdsAll_20 : decode cX2_holdsAll 20 = .ok (.getfield 31, 3) := dq180 bw_cX2_holdsAll_0 20 rfl rfl rfl
theorem dX2_holdsAll_23 : decode cX2_holdsAll 23 = .ok (.iload_n 3, 1) := dq29 bw_cX2_holdsAll_0 23 rfl rfl
theorem bw_cX2_holdsAll_1 : dq_w cX2_holdsAll 24 [46, 122, 4, 126, 154, 0, 5, 3, 172, 132, 3, 1, 167, 255, 222, 4, 172] = true := by decide +kernel
theorem dX2_holdsAll_24 : decode cX2_holdsAll 24 = .ok (.iaload, 1) := dq46 bw_cX2_holdsAll_1 0 rfl rfl
theorem dX2_holdsAll_25 : decode cX2_holdsAll 25 = .ok (.ishr, 1) := dq122 bw_cX2_holdsAll_1 1 rfl rfl
theorem dX2_holdsAll_26 : decode cX2_holdsAll 26 = .ok (.iconst 1, 1) := dq4 bw_cX2_holdsAll_1 2 rfl rfl
theorem dX2_holdsAll_27 : decode cX2_holdsAll 27 = .ok (.iand, 1) := dq126 bw_cX2_holdsAll_1 3 rfl rfl
theorem dX2_holdsAll_28 : decode cX2_holdsAll 28 = .ok (.ifCond .ne 5, 3) := dq154 bw_cX2_holdsAll_1 4 rfl rfl rfl
theorem dX2_holdsAll_31 : decode cX2_holdsAll 31 = .ok (.iconst 0, 1) := dq3 bw_cX2_holdsAll_1 7 rfl rfl
theorem dX2_holdsAll_32 : decode cX2_holdsAll 32 = .ok (.ireturn, 1) := dq172 bw_cX2_holdsAll_1 8 rfl rfl
theorem dX2_holdsAll_33 : decode cX2_holdsAll 33 = .ok (.iinc 3 1, 3) := dq132 bw_cX2_holdsAll_1 9 rfl rfl rfl
theorem dX2_holdsAll_36 : decode cX2_holdsAll 36 = .ok (.goto (-34), 3) := dq167 bw_cX2_holdsAll_1 12 rfl rfl rfl
theorem dX2_holdsAll_39 : decode cX2_holdsAll 39 = .ok (.iconst 1, 1) := dq4 bw_cX2_holdsAll_1 15 rfl rfl
theorem dX2_holdsAll_40 : decode cX2_holdsAll 40 = .ok (.ireturn, 1) := dq172 bw_cX2_holdsAll_1 16 rfl rfl
theorem bw_cX2_isTrail_0 : dq_w cX2_isTrail 0 [42, 28, 182, 0, 77, 62, 29, 153, 0, 19, 29, 184, 0, 80, 5, 160, 0, 15, 29, 27, 122, 4, 126, 153, 0, 7, 4] = true := by decide +kernel
theorem dX2_isTrail_0 : decode cX2_isTrail 0 = .ok (.aload_n 0, 1) := dq42 bw_cX2_isTrail_0 0 rfl rfl
theorem dX2_isTrail_1 : decode cX2_isTrail 1 = .ok (.iload_n 2, 1) := dq28 bw_cX2_isTrail_0 1 rfl rfl
theorem dX2_isTrail_2 : decode cX2_isTrail 2 = .ok (.invokevirtual 77, 3) := dq182 bw_cX2_isTrail_0 2 rfl rfl rfl
theorem dX2_isTrail_5 : decode cX2_isTrail 5 = .ok (.istore_n 3, 1) := dq62 bw_cX2_isTrail_0 5 rfl rfl
theorem dX2_isTrail_6 : decode cX2_isTrail 6 = .ok (.iload_n 3, 1) := dq29 bw_cX2_isTrail_0 6 rfl rfl
theorem dX2_isTrail_7 : decode cX2_isTrail 7 = .ok (.ifCond .eq 19, 3) := dq153 bw_cX2_isTrail_0 7 rfl rfl rfl
theorem dX2_isTrail_10 : decode cX2_isTrail 10 = .ok (.iload_n 3, 1) := dq29 bw_cX2_isTrail_0 10 rfl rfl
theorem dX2_isTrail_11 : decode cX2_isTrail 11 = .ok (.invokestatic 80, 3) := dq184 bw_cX2_isTrail_0 11 rfl rfl rfl
theorem dX2_isTrail_14 : decode cX2_isTrail 14 = .ok (.iconst 2, 1) := dq5 bw_cX2_isTrail_0 14 rfl rfl
theorem dX2_isTrail_15 : decode cX2_isTrail 15 = .ok (.if_icmp .ne 15, 3) := dq160 bw_cX2_isTrail_0 15 rfl rfl rfl
theorem dX2_isTrail_18 : decode cX2_isTrail 18 = .ok (.iload_n 3, 1) := dq29 bw_cX2_isTrail_0 18 rfl rfl
theorem dX2_isTrail_19 : decode cX2_isTrail 19 = .ok (.iload_n 1, 1) := dq27 bw_cX2_isTrail_0 19 rfl rfl
theorem dX2_isTrail_20 : decode cX2_isTrail 20 = .ok (.ishr, 1) := dq122 bw_cX2_isTrail_0 20 rfl rfl
theorem dX2_isTrail_21 : decode cX2_isTrail 21 = .ok (.iconst 1, 1) := dq4 bw_cX2_isTrail_0 21 rfl rfl
theorem dX2_isTrail_22 : decode cX2_isTrail 22 = .ok (.iand, 1) := dq126 bw_cX2_isTrail_0 22 rfl rfl
theorem dX2_isTrail_23 : decode cX2_isTrail 23 = .ok (.ifCond .eq 7, 3) := dq153 bw_cX2_isTrail_0 23 rfl rfl rfl
theorem bw_cX2_isTrail_1 : dq_w cX2_isTrail 24 [0, 7, 4, 167, 0, 4, 3, 54, 4, 21, 4, 153, 0, 21, 42, 42, 27, 28, 182, 0, 69, 28, 182, 0, 73, 153, 0] = true := by decide +kernel
theorem dX2_isTrail_26 : decode cX2_isTrail 26 = .ok (.iconst 1, 1) := dq4 bw_cX2_isTrail_1 2 rfl rfl
theorem dX2_isTrail_27 : decode cX2_isTrail 27 = .ok (.goto 4, 3) := dq167 bw_cX2_isTrail_1 3 rfl rfl rfl
theorem dX2_isTrail_30 : decode cX2_isTrail 30 = .ok (.iconst 0, 1) := dq3 bw_cX2_isTrail_1 6 rfl rfl
theorem dX2_isTrail_31 : decode cX2_isTrail 31 = .ok (.istore 4, 2) := dq54 bw_cX2_isTrail_1 7 rfl rfl
theorem dX2_isTrail_33 : decode cX2_isTrail 33 = .ok (.iload 4, 2) := dq21 bw_cX2_isTrail_1 9 rfl rfl
theorem dX2_isTrail_35 : decode cX2_isTrail 35 = .ok (.ifCond .eq 21, 3) := dq153 bw_cX2_isTrail_1 11 rfl rfl rfl
theorem dX2_isTrail_38 : decode cX2_isTrail 38 = .ok (.aload_n 0, 1) := dq42 bw_cX2_isTrail_1 14 rfl rfl
theorem dX2_isTrail_39 : decode cX2_isTrail 39 = .ok (.aload_n 0, 1) := dq42 bw_cX2_isTrail_1 15 rfl rfl
theorem dX2_isTrail_40 : decode cX2_isTrail 40 = .ok (.iload_n 1, 1) := dq27 bw_cX2_isTrail_1 16 rfl rfl
theorem dX2_isTrail_41 : decode cX2_isTrail 41 = .ok (.iload_n 2, 1) := dq28 bw_cX2_isTrail_1 17 rfl rfl
theorem dX2_isTrail_42 : decode cX2_isTrail 42 = .ok (.invokevirtual 69, 3) := dq182 bw_cX2_isTrail_1 18 rfl rfl rfl
theorem dX2_isTrail_45 : decode cX2_isTrail 45 = .ok (.iload_n 2, 1) := dq28 bw_cX2_isTrail_1 21 rfl rfl
theorem dX2_isTrail_46 : decode cX2_isTrail 46 = .ok (.invokevirtual 73, 3) := dq182 bw_cX2_isTrail_1 22 rfl rfl rfl
theorem bw_cX2_isTrail_2 : dq_w cX2_isTrail 48 [73, 153, 0, 7, 4, 167, 0, 4, 3, 172] = true := by decide +kernel
theorem dX2_isTrail_49 : decode cX2_isTrail 49 = .ok (.ifCond .eq 7, 3) := dq153 bw_cX2_isTrail_2 1 rfl rfl rfl
theorem dX2_isTrail_52 : decode cX2_isTrail 52 = .ok (.iconst 1, 1) := dq4 bw_cX2_isTrail_2 4 rfl rfl
theorem dX2_isTrail_53 : decode cX2_isTrail 53 = .ok (.goto 4, 3) := dq167 bw_cX2_isTrail_2 5 rfl rfl rfl
theorem dX2_isTrail_56 : decode cX2_isTrail 56 = .ok (.iconst 0, 1) := dq3 bw_cX2_isTrail_2 8 rfl rfl
theorem dX2_isTrail_57 : decode cX2_isTrail 57 = .ok (.ireturn, 1) := dq172 bw_cX2_isTrail_2 9 rfl rfl
theorem bw_cX4_leastStep_0 : dq_w cX4_leastStep 0 [3, 62, 29, 42, 180, 0, 38, 162, 0, 48, 28, 29, 122, 4, 126, 153, 0, 34, 42, 29, 27, 182, 0, 56, 153, 0, 25] = true := by decide +kernel
theorem dX4_leastStep_0 : decode cX4_leastStep 0 = .ok (.iconst 0, 1) := dq3 bw_cX4_leastStep_0 0 rfl rfl
theorem dX4_leastStep_1 : decode cX4_leastStep 1 = .ok (.istore_n 3, 1) := dq62 bw_cX4_leastStep_0 1 rfl rfl
theorem dX4_leastStep_2 : decode cX4_leastStep 2 = .ok (.iload_n 3, 1) := dq29 bw_cX4_leastStep_0 2 rfl rfl
theorem dX4_leastStep_3 : decode cX4_leastStep 3 = .ok (.aload_n 0, 1) := dq42 bw_cX4_leastStep_0 3 rfl rfl
theorem dX4_leastStep_4 : decode cX4_leastStep 4 = .ok (.getfield 38, 3) := dq180 bw_cX4_leastStep_0 4 rfl rfl rfl
theorem dX4_leastStep_7 : decode cX4_leastStep 7 = .ok (.if_icmp .ge 48, 3) := dq162 bw_cX4_leastStep_0 7 rfl rfl rfl
theorem dX4_leastStep_10 : decode cX4_leastStep 10 = .ok (.iload_n 2, 1) := dq28 bw_cX4_leastStep_0 10 rfl rfl
theorem dX4_leastStep_11 : decode cX4_leastStep 11 = .ok (.iload_n 3, 1) := dq29 bw_cX4_leastStep_0 11 rfl rfl
theorem dX4_leastStep_12 : decode cX4_leastStep 12 = .ok (.ishr, 1) := dq122 bw_cX4_leastStep_0 12 rfl rfl
theorem dX4_leastStep_13 : decode cX4_leastStep 13 = .ok (.iconst 1, 1) := dq4 bw_cX4_leastStep_0 13 rfl rfl
theorem dX4_leastStep_14 : decode cX4_leastStep 14 = .ok (.iand, 1) := dq126 bw_cX4_leastStep_0 14 rfl rfl
theorem dX4_leastStep_15 : decode cX4_leastStep 15 = .ok (.ifCond .eq 34, 3) := dq153 bw_cX4_leastStep_0 15 rfl rfl rfl
theorem dX4_leastStep_18 : decode cX4_leastStep 18 = .ok (.aload_n 0, 1) := dq42 bw_cX4_leastStep_0 18 rfl rfl
theorem dX4_leastStep_19 : decode cX4_leastStep 19 = .ok (.iload_n 3, 1) := dq29 bw_cX4_leastStep_0 19 rfl rfl
theorem dX4_leastStep_20 : decode cX4_leastStep 20 = .ok (.iload_n 1, 1) := dq27 bw_cX4_leastStep_0 20 rfl rfl
theorem dX4_leastStep_21 : decode cX4_leastStep 21 = .ok (.invokevirtual 56, 3) := dq182 bw_cX4_leastStep_0 21 rfl rfl rfl
theorem bw_cX4_leastStep_1 : dq_w cX4_leastStep 24 [153, 0, 25, 42, 42, 29, 27, 182, 0, 53, 28, 4, 29, 120, 2, 130, 126, 182, 0, 60, 153, 0, 5, 29, 172, 132, 3] = true := by decide +kernel
theorem dX4_leastStep_24 : decode cX4_leastStep 24 = .ok (.ifCond .eq 25, 3) := dq153 bw_cX4_leastStep_1 0 rfl rfl rfl
theorem dX4_leastStep_27 : decode cX4_leastStep 27 = .ok (.aload_n 0, 1) := dq42 bw_cX4_leastStep_1 3 rfl rfl
theorem dX4_leastStep_28 : decode cX4_leastStep 28 = .ok (.aload_n 0, 1) := dq42 bw_cX4_leastStep_1 4 rfl rfl
theorem dX4_leastStep_29 : decode cX4_leastStep 29 = .ok (.iload_n 3, 1) := dq29 bw_cX4_leastStep_1 5 rfl rfl
theorem dX4_leastStep_30 : decode cX4_leastStep 30 = .ok (.iload_n 1, 1) := dq27 bw_cX4_leastStep_1 6 rfl rfl
theorem dX4_leastStep_31 : decode cX4_leastStep 31 = .ok (.invokevirtual 53, 3) := dq182 bw_cX4_leastStep_1 7 rfl rfl rfl
theorem dX4_leastStep_34 : decode cX4_leastStep 34 = .ok (.iload_n 2, 1) := dq28 bw_cX4_leastStep_1 10 rfl rfl
theorem dX4_leastStep_35 : decode cX4_leastStep 35 = .ok (.iconst 1, 1) := dq4 bw_cX4_leastStep_1 11 rfl rfl
theorem dX4_leastStep_36 : decode cX4_leastStep 36 = .ok (.iload_n 3, 1) := dq29 bw_cX4_leastStep_1 12 rfl rfl
theorem dX4_leastStep_37 : decode cX4_leastStep 37 = .ok (.ishl, 1) := dq120 bw_cX4_leastStep_1 13 rfl rfl
theorem dX4_leastStep_38 : decode cX4_leastStep 38 = .ok (.iconst (-1), 1) := dq2 bw_cX4_leastStep_1 14 rfl rfl
theorem dX4_leastStep_39 : decode cX4_leastStep 39 = .ok (.ixor, 1) := dq130 bw_cX4_leastStep_1 15 rfl rfl
theorem dX4_leastStep_40 : decode cX4_leastStep 40 = .ok (.iand, 1) := dq126 bw_cX4_leastStep_1 16 rfl rfl
theorem dX4_leastStep_41 : decode cX4_leastStep 41 = .ok (.invokevirtual 60, 3) := dq182 bw_cX4_leastStep_1 17 rfl rfl rfl
theorem dX4_leastStep_44 : decode cX4_leastStep 44 = .ok (.ifCond .eq 5, 3) := dq153 bw_cX4_leastStep_1 20 rfl rfl rfl
theorem dX4_leastStep_47 : decode cX4_leastStep 47 = .ok (.iload_n 3, 1) := dq29 bw_cX4_leastStep_1 23 rfl rfl
theorem bw_cX4_leastStep_2 : dq_w cX4_leastStep 48 [172, 132, 3, 1, 167, 255, 206, 2, 172] = true := by decide +kernel
theorem dX4_leastStep_48 : decode cX4_leastStep 48 = .ok (.ireturn, 1) := dq172 bw_cX4_leastStep_2 0 rfl rfl
theorem dX4_leastStep_49 : decode cX4_leastStep 49 = .ok (.iinc 3 1, 3) := dq132 bw_cX4_leastStep_2 1 rfl rfl rfl
theorem dX4_leastStep_52 : decode cX4_leastStep 52 = .ok (.goto (-50), 3) := dq167 bw_cX4_leastStep_2 4 rfl rfl rfl
theorem dX4_leastStep_55 : decode cX4_leastStep 55 = .ok (.iconst (-1), 1) := dq2 bw_cX4_leastStep_2 7 rfl rfl
theorem dX4_leastStep_56 : decode cX4_leastStep 56 = .ok (.ireturn, 1) := dq172 bw_cX4_leastStep_2 8 rfl rfl
theorem bw_cX4_leastTrail_0 : dq_w cX4_leastTrail 0 [45, 182, 0, 27, 43, 182, 0, 32, 54, 4, 28, 54, 5, 3, 54, 6, 3, 54, 7, 21, 7, 43, 180, 0, 38, 162, 0] = true := by decide +kernel
theorem dX4_leastTrail_0 : decode cX4_leastTrail 0 = .ok (.aload_n 3, 1) := dq45 bw_cX4_leastTrail_0 0 rfl rfl
theorem dX4_leastTrail_1 : decode cX4_leastTrail 1 = .ok (.invokevirtual 27, 3) := dq182 bw_cX4_leastTrail_0 1 rfl rfl rfl
theorem dX4_leastTrail_4 : decode cX4_leastTrail 4 = .ok (.aload_n 1, 1) := dq43 bw_cX4_leastTrail_0 4 rfl rfl
theorem dX4_leastTrail_5 : decode cX4_leastTrail 5 = .ok (.invokevirtual 32, 3) := dq182 bw_cX4_leastTrail_0 5 rfl rfl rfl
theorem dX4_leastTrail_8 : decode cX4_leastTrail 8 = .ok (.istore 4, 2) := dq54 bw_cX4_leastTrail_0 8 rfl rfl
theorem dX4_leastTrail_10 : decode cX4_leastTrail 10 = .ok (.iload_n 2, 1) := dq28 bw_cX4_leastTrail_0 10 rfl rfl
theorem dX4_leastTrail_11 : decode cX4_leastTrail 11 = .ok (.istore 5, 2) := dq54 bw_cX4_leastTrail_0 11 rfl rfl
theorem dX4_leastTrail_13 : decode cX4_leastTrail 13 = .ok (.iconst 0, 1) := dq3 bw_cX4_leastTrail_0 13 rfl rfl
theorem dX4_leastTrail_14 : decode cX4_leastTrail 14 = .ok (.istore 6, 2) := dq54 bw_cX4_leastTrail_0 14 rfl rfl
theorem dX4_leastTrail_16 : decode cX4_leastTrail 16 = .ok (.iconst 0, 1) := dq3 bw_cX4_leastTrail_0 16 rfl rfl
theorem dX4_leastTrail_17 : decode cX4_leastTrail 17 = .ok (.istore 7, 2) := dq54 bw_cX4_leastTrail_0 17 rfl rfl
theorem dX4_leastTrail_19 : decode cX4_leastTrail 19 = .ok (.iload 7, 2) := dq21 bw_cX4_leastTrail_0 19 rfl rfl
theorem dX4_leastTrail_21 : decode cX4_leastTrail 21 = .ok (.aload_n 1, 1) := dq43 bw_cX4_leastTrail_0 21 rfl rfl
theorem dX4_leastTrail_22 : decode cX4_leastTrail 22 = .ok (.getfield 38, 3) := dq180 bw_cX4_leastTrail_0 22 rfl rfl rfl
theorem bw_cX4_leastTrail_1 : dq_w cX4_leastTrail 24 [38, 162, 0, 67, 43, 21, 5, 21, 4, 184, 0, 42, 54, 8, 21, 8, 156, 0, 6, 21, 6, 172, 45, 21, 8, 182, 0] = true := by decide +kernel
theorem dX4_leastTrail_25 : decode cX4_leastTrail 25 = .ok (.if_icmp .ge 67, 3) := dq162 bw_cX4_leastTrail_1 1 rfl rfl rfl
theorem dX4_leastTrail_28 : decode cX4_leastTrail 28 = .ok (.aload_n 1, 1) := dq43 bw_cX4_leastTrail_1 4 rfl rfl
theorem dX4_leastTrail_29 : decode cX4_leastTrail 29 = .ok (.iload 5, 2) := dq21 bw_cX4_leastTrail_1 5 rfl rfl
theorem dX4_leastTrail_31 : decode cX4_leastTrail 31 = .ok (.iload 4, 2) := dq21 bw_cX4_leastTrail_1 7 rfl rfl
theorem dX4_leastTrail_33 : decode cX4_leastTrail 33 = .ok (.invokestatic 42, 3) := dq184 bw_cX4_leastTrail_1 9 rfl rfl rfl
theorem dX4_leastTrail_36 : decode cX4_leastTrail 36 = .ok (.istore 8, 2) := dq54 bw_cX4_leastTrail_1 12 rfl rfl
theorem dX4_leastTrail_38 : decode cX4_leastTrail 38 = .ok (.iload 8, 2) := dq21 bw_cX4_leastTrail_1 14 rfl rfl
theorem dX4_leastTrail_40 : decode cX4_leastTrail 40 = .ok (.ifCond .ge 6, 3) := dq156 bw_cX4_leastTrail_1 16 rfl rfl rfl
theorem dX4_leastTrail_43 : decode cX4_leastTrail 43 = .ok (.iload 6, 2) := dq21 bw_cX4_leastTrail_1 19 rfl rfl
theorem dX4_leastTrail_45 : decode cX4_leastTrail 45 = .ok (.ireturn, 1) := dq172 bw_cX4_leastTrail_1 21 rfl rfl
theorem dX4_leastTrail_46 : decode cX4_leastTrail 46 = .ok (.aload_n 3, 1) := dq45 bw_cX4_leastTrail_1 22 rfl rfl
theorem dX4_leastTrail_47 : decode cX4_leastTrail 47 = .ok (.iload 8, 2) := dq21 bw_cX4_leastTrail_1 23 rfl rfl
theorem bw_cX4_leastTrail_2 : dq_w cX4_leastTrail 48 [8, 182, 0, 46, 21, 6, 43, 21, 8, 21, 5, 182, 0, 49, 96, 54, 6, 43, 21, 8, 21, 5, 182, 0, 53, 54, 5] = true := by decide +kernel
theorem dX4_leastTrail_49 : decode cX4_leastTrail 49 = .ok (.invokevirtual 46, 3) := dq182 bw_cX4_leastTrail_2 1 rfl rfl rfl
theorem dX4_leastTrail_52 : decode cX4_leastTrail 52 = .ok (.iload 6, 2) := dq21 bw_cX4_leastTrail_2 4 rfl rfl
theorem dX4_leastTrail_54 : decode cX4_leastTrail 54 = .ok (.aload_n 1, 1) := dq43 bw_cX4_leastTrail_2 6 rfl rfl
theorem dX4_leastTrail_55 : decode cX4_leastTrail 55 = .ok (.iload 8, 2) := dq21 bw_cX4_leastTrail_2 7 rfl rfl
theorem dX4_leastTrail_57 : decode cX4_leastTrail 57 = .ok (.iload 5, 2) := dq21 bw_cX4_leastTrail_2 9 rfl rfl
theorem dX4_leastTrail_59 : decode cX4_leastTrail 59 = .ok (.invokevirtual 49, 3) := dq182 bw_cX4_leastTrail_2 11 rfl rfl rfl
theorem dX4_leastTrail_62 : decode cX4_leastTrail 62 = .ok (.iadd, 1) := dq96 bw_cX4_leastTrail_2 14 rfl rfl
theorem dX4_leastTrail_63 : decode cX4_leastTrail 63 = .ok (.istore 6, 2) := dq54 bw_cX4_leastTrail_2 15 rfl rfl
theorem dX4_leastTrail_65 : decode cX4_leastTrail 65 = .ok (.aload_n 1, 1) := dq43 bw_cX4_leastTrail_2 17 rfl rfl
theorem dX4_leastTrail_66 : decode cX4_leastTrail 66 = .ok (.iload 8, 2) := dq21 bw_cX4_leastTrail_2 18 rfl rfl
theorem dX4_leastTrail_68 : decode cX4_leastTrail 68 = .ok (.iload 5, 2) := dq21 bw_cX4_leastTrail_2 20 rfl rfl
theorem dX4_leastTrail_70 : decode cX4_leastTrail 70 = .ok (.invokevirtual 53, 3) := dq182 bw_cX4_leastTrail_2 22 rfl rfl rfl
theorem bw_cX4_leastTrail_3 : dq_w cX4_leastTrail 72 [53, 54, 5, 21, 4, 4, 21, 8, 120, 2, 130, 126, 54, 4, 132, 7, 1, 167, 255, 186, 21, 6, 172] = true := by decide +kernel
theorem dX4_leastTrail_73 : decode cX4_leastTrail 73 = .ok (.istore 5, 2) := dq54 bw_cX4_leastTrail_3 1 rfl rfl
theorem dX4_leastTrail_75 : decode cX4_leastTrail 75 = .ok (.iload 4, 2) := dq21 bw_cX4_leastTrail_3 3 rfl rfl
theorem dX4_leastTrail_77 : decode cX4_leastTrail 77 = .ok (.iconst 1, 1) := dq4 bw_cX4_leastTrail_3 5 rfl rfl
theorem dX4_leastTrail_78 : decode cX4_leastTrail 78 = .ok (.iload 8, 2) := dq21 bw_cX4_leastTrail_3 6 rfl rfl
theorem dX4_leastTrail_80 : decode cX4_leastTrail 80 = .ok (.ishl, 1) := dq120 bw_cX4_leastTrail_3 8 rfl rfl
theorem dX4_leastTrail_81 : decode cX4_leastTrail 81 = .ok (.iconst (-1), 1) := dq2 bw_cX4_leastTrail_3 9 rfl rfl
theorem dX4_leastTrail_82 : decode cX4_leastTrail 82 = .ok (.ixor, 1) := dq130 bw_cX4_leastTrail_3 10 rfl rfl
theorem dX4_leastTrail_83 : decode cX4_leastTrail 83 = .ok (.iand, 1) := dq126 bw_cX4_leastTrail_3 11 rfl rfl
theorem dX4_leastTrail_84 : decode cX4_leastTrail 84 = .ok (.istore 4, 2) := dq54 bw_cX4_leastTrail_3 12 rfl rfl
theorem dX4_leastTrail_86 : decode cX4_leastTrail 86 = .ok (.iinc 7 1, 3) := dq132 bw_cX4_leastTrail_3 14 rfl rfl rfl
theorem dX4_leastTrail_89 : decode cX4_leastTrail 89 = .ok (.goto (-70), 3) := dq167 bw_cX4_leastTrail_3 17 rfl rfl rfl
theorem dX4_leastTrail_92 : decode cX4_leastTrail 92 = .ok (.iload 6, 2) := dq21 bw_cX4_leastTrail_3 20 rfl rfl
theorem dX4_leastTrail_94 : decode cX4_leastTrail 94 = .ok (.ireturn, 1) := dq172 bw_cX4_leastTrail_3 22 rfl rfl
theorem bw_cX11_trail_0 : dq_w cX11_trail 0 [42, 180, 0, 19, 27, 182, 0, 144, 154, 0, 5, 2, 172, 42, 180, 0, 19, 27, 42, 180, 0, 19, 182, 1, 17, 182, 1] = true := by decide +kernel
theorem dX11_trail_0 : decode cX11_trail 0 = .ok (.aload_n 0, 1) := dq42 bw_cX11_trail_0 0 rfl rfl
theorem dX11_trail_1 : decode cX11_trail 1 = .ok (.getfield 19, 3) := dq180 bw_cX11_trail_0 1 rfl rfl rfl
theorem dX11_trail_4 : decode cX11_trail 4 = .ok (.iload_n 1, 1) := dq27 bw_cX11_trail_0 4 rfl rfl
theorem dX11_trail_5 : decode cX11_trail 5 = .ok (.invokevirtual 144, 3) := dq182 bw_cX11_trail_0 5 rfl rfl rfl
theorem dX11_trail_8 : decode cX11_trail 8 = .ok (.ifCond .ne 5, 3) := dq154 bw_cX11_trail_0 8 rfl rfl rfl
theorem dX11_trail_11 : decode cX11_trail 11 = .ok (.iconst (-1), 1) := dq2 bw_cX11_trail_0 11 rfl rfl
theorem dX11_trail_12 : decode cX11_trail 12 = .ok (.ireturn, 1) := dq172 bw_cX11_trail_0 12 rfl rfl
theorem dX11_trail_13 : decode cX11_trail 13 = .ok (.aload_n 0, 1) := dq42 bw_cX11_trail_0 13 rfl rfl
theorem dX11_trail_14 : decode cX11_trail 14 = .ok (.getfield 19, 3) := dq180 bw_cX11_trail_0 14 rfl rfl rfl
theorem dX11_trail_17 : decode cX11_trail 17 = .ok (.iload_n 1, 1) := dq27 bw_cX11_trail_0 17 rfl rfl
theorem dX11_trail_18 : decode cX11_trail 18 = .ok (.aload_n 0, 1) := dq42 bw_cX11_trail_0 18 rfl rfl
theorem dX11_trail_19 : decode cX11_trail 19 = .ok (.getfield 19, 3) := dq180 bw_cX11_trail_0 19 rfl rfl rfl
theorem dX11_trail_22 : decode cX11_trail 22 = .ok (.invokevirtual 273, 3) := dq182 bw_cX11_trail_0 22 rfl rfl rfl
theorem bw_cX11_trail_1 : dq_w cX11_trail 24 [17, 182, 1, 31, 154, 0, 6, 16, 254, 172, 42, 180, 0, 56, 42, 180, 0, 19, 27, 42, 180, 0, 26, 182, 1, 35, 172] = true := by decide +kernel
theorem dX11_trail_25 : decode cX11_trail 25 = .ok (.invokevirtual 287, 3) := dq182 bw_cX11_trail_1 1 rfl rfl rfl
theorem dX11_trail_28 : decode cX11_trail 28 = .ok (.ifCond .ne 6, 3) := dq154 bw_cX11_trail_1 4 rfl rfl rfl
theorem dX11_trail_31 : decode cX11_trail 31 = .ok (.bipush (-2), 2) := dq16 bw_cX11_trail_1 7 rfl rfl rfl
theorem dX11_trail_33 : decode cX11_trail 33 = .ok (.ireturn, 1) := dq172 bw_cX11_trail_1 9 rfl rfl
theorem dX11_trail_34 : decode cX11_trail 34 = .ok (.aload_n 0, 1) := dq42 bw_cX11_trail_1 10 rfl rfl
theorem dX11_trail_35 : decode cX11_trail 35 = .ok (.getfield 56, 3) := dq180 bw_cX11_trail_1 11 rfl rfl rfl
theorem dX11_trail_38 : decode cX11_trail 38 = .ok (.aload_n 0, 1) := dq42 bw_cX11_trail_1 14 rfl rfl
theorem dX11_trail_39 : decode cX11_trail 39 = .ok (.getfield 19, 3) := dq180 bw_cX11_trail_1 15 rfl rfl rfl
theorem dX11_trail_42 : decode cX11_trail 42 = .ok (.iload_n 1, 1) := dq27 bw_cX11_trail_1 18 rfl rfl
theorem dX11_trail_43 : decode cX11_trail 43 = .ok (.aload_n 0, 1) := dq42 bw_cX11_trail_1 19 rfl rfl
theorem dX11_trail_44 : decode cX11_trail 44 = .ok (.getfield 26, 3) := dq180 bw_cX11_trail_1 20 rfl rfl rfl
theorem dX11_trail_47 : decode cX11_trail 47 = .ok (.invokevirtual 291, 3) := dq182 bw_cX11_trail_1 23 rfl rfl rfl
theorem bw_cX11_trail_2 : dq_w cX11_trail 48 [1, 35, 172] = true := by decide +kernel
theorem dX11_trail_50 : decode cX11_trail 50 = .ok (.ireturn, 1) := dq172 bw_cX11_trail_2 2 rfl rfl
theorem bw_cX2_hangsTogether_0 : dq_w cX2_hangsTogether 0 [42, 180, 0, 15, 153, 0, 28, 42, 42, 42, 180, 0, 31, 3, 46, 42, 182, 0, 65, 182, 0, 69, 42, 182, 0, 65, 182] = true := by decide +kernel
theorem dX2_hangsTogether_0 : decode cX2_hangsTogether 0 = .ok (.aload_n 0, 1) := dq42 bw_cX2_hangsTogether_0 0 rfl rfl
theorem dX2_hangsTogether_1 : decode cX2_hangsTogether 1 = .ok (.getfield 15, 3) := dq180 bw_cX2_hangsTogether_0 1 rfl rfl rfl
theorem dX2_hangsTogether_4 : decode cX2_hangsTogether 4 = .ok (.ifCond .eq 28, 3) := dq153 bw_cX2_hangsTogether_0 4 rfl rfl rfl
theorem dX2_hangsTogether_7 : decode cX2_hangsTogether 7 = .ok (.aload_n 0, 1) := dq42 bw_cX2_hangsTogether_0 7 rfl rfl
theorem dX2_hangsTogether_8 : decode cX2_hangsTogether 8 = .ok (.aload_n 0, 1) := dq42 bw_cX2_hangsTogether_0 8 rfl rfl
theorem dX2_hangsTogether_9 : decode cX2_hangsTogether 9 = .ok (.aload_n 0, 1) := dq42 bw_cX2_hangsTogether_0 9 rfl rfl
theorem dX2_hangsTogether_10 : decode cX2_hangsTogether 10 = .ok (.getfield 31, 3) := dq180 bw_cX2_hangsTogether_0 10 rfl rfl rfl
theorem dX2_hangsTogether_13 : decode cX2_hangsTogether 13 = .ok (.iconst 0, 1) := dq3 bw_cX2_hangsTogether_0 13 rfl rfl
theorem dX2_hangsTogether_14 : decode cX2_hangsTogether 14 = .ok (.iaload, 1) := dq46 bw_cX2_hangsTogether_0 14 rfl rfl
theorem dX2_hangsTogether_15 : decode cX2_hangsTogether 15 = .ok (.aload_n 0, 1) := dq42 bw_cX2_hangsTogether_0 15 rfl rfl
theorem dX2_hangsTogether_16 : decode cX2_hangsTogether 16 = .ok (.invokevirtual 65, 3) := dq182 bw_cX2_hangsTogether_0 16 rfl rfl rfl
theorem dX2_hangsTogether_19 : decode cX2_hangsTogether 19 = .ok (.invokevirtual 69, 3) := dq182 bw_cX2_hangsTogether_0 19 rfl rfl rfl
theorem dX2_hangsTogether_22 : decode cX2_hangsTogether 22 = .ok (.aload_n 0, 1) := dq42 bw_cX2_hangsTogether_0 22 rfl rfl
theorem dX2_hangsTogether_23 : decode cX2_hangsTogether 23 = .ok (.invokevirtual 65, 3) := dq182 bw_cX2_hangsTogether_0 23 rfl rfl rfl
theorem bw_cX2_hangsTogether_1 : dq_w cX2_hangsTogether 24 [0, 65, 182, 0, 73, 153, 0, 7, 4, 167, 0, 4, 3, 172] = true := by decide +kernel
theorem dX2_hangsTogether_26 : decode cX2_hangsTogether 26 = .ok (.invokevirtual 73, 3) := dq182 bw_cX2_hangsTogether_1 2 rfl rfl rfl
theorem dX2_hangsTogether_29 : decode cX2_hangsTogether 29 = .ok (.ifCond .eq 7, 3) := dq153 bw_cX2_hangsTogether_1 5 rfl rfl rfl
theorem dX2_hangsTogether_32 : decode cX2_hangsTogether 32 = .ok (.iconst 1, 1) := dq4 bw_cX2_hangsTogether_1 8 rfl rfl
theorem dX2_hangsTogether_33 : decode cX2_hangsTogether 33 = .ok (.goto 4, 3) := dq167 bw_cX2_hangsTogether_1 9 rfl rfl rfl
theorem dX2_hangsTogether_36 : decode cX2_hangsTogether 36 = .ok (.iconst 0, 1) := dq3 bw_cX2_hangsTogether_1 12 rfl rfl
theorem dX2_hangsTogether_37 : decode cX2_hangsTogether 37 = .ok (.ireturn, 1) := dq172 bw_cX2_hangsTogether_1 13 rfl rfl
theorem bw_cX4_sortEnds_0 : dq_w cX4_sortEnds 0 [3, 61, 28, 43, 180, 0, 79, 162, 0, 23, 42, 180, 0, 9, 28, 3, 79, 42, 180, 0, 15, 28, 3, 79, 132, 2, 1] = true := by decide +kernel
theorem dX4_sortEnds_0 : decode cX4_sortEnds 0 = .ok (.iconst 0, 1) := dq3 bw_cX4_sortEnds_0 0 rfl rfl
theorem dX4_sortEnds_1 : decode cX4_sortEnds 1 = .ok (.istore_n 2, 1) := dq61 bw_cX4_sortEnds_0 1 rfl rfl
theorem dX4_sortEnds_2 : decode cX4_sortEnds 2 = .ok (.iload_n 2, 1) := dq28 bw_cX4_sortEnds_0 2 rfl rfl
theorem dX4_sortEnds_3 : decode cX4_sortEnds 3 = .ok (.aload_n 1, 1) := dq43 bw_cX4_sortEnds_0 3 rfl rfl
theorem dX4_sortEnds_4 : decode cX4_sortEnds 4 = .ok (.getfield 79, 3) := dq180 bw_cX4_sortEnds_0 4 rfl rfl rfl
theorem dX4_sortEnds_7 : decode cX4_sortEnds 7 = .ok (.if_icmp .ge 23, 3) := dq162 bw_cX4_sortEnds_0 7 rfl rfl rfl
theorem dX4_sortEnds_10 : decode cX4_sortEnds 10 = .ok (.aload_n 0, 1) := dq42 bw_cX4_sortEnds_0 10 rfl rfl
theorem dX4_sortEnds_11 : decode cX4_sortEnds 11 = .ok (.getfield 9, 3) := dq180 bw_cX4_sortEnds_0 11 rfl rfl rfl
theorem dX4_sortEnds_14 : decode cX4_sortEnds 14 = .ok (.iload_n 2, 1) := dq28 bw_cX4_sortEnds_0 14 rfl rfl
theorem dX4_sortEnds_15 : decode cX4_sortEnds 15 = .ok (.iconst 0, 1) := dq3 bw_cX4_sortEnds_0 15 rfl rfl
theorem dX4_sortEnds_16 : decode cX4_sortEnds 16 = .ok (.iastore, 1) := dq79 bw_cX4_sortEnds_0 16 rfl rfl
theorem dX4_sortEnds_17 : decode cX4_sortEnds 17 = .ok (.aload_n 0, 1) := dq42 bw_cX4_sortEnds_0 17 rfl rfl
theorem dX4_sortEnds_18 : decode cX4_sortEnds 18 = .ok (.getfield 15, 3) := dq180 bw_cX4_sortEnds_0 18 rfl rfl rfl
theorem dX4_sortEnds_21 : decode cX4_sortEnds 21 = .ok (.iload_n 2, 1) := dq28 bw_cX4_sortEnds_0 21 rfl rfl
theorem dX4_sortEnds_22 : decode cX4_sortEnds 22 = .ok (.iconst 0, 1) := dq3 bw_cX4_sortEnds_0 22 rfl rfl
theorem dX4_sortEnds_23 : decode cX4_sortEnds 23 = .ok (.iastore, 1) := dq79 bw_cX4_sortEnds_0 23 rfl rfl
theorem bw_cX4_sortEnds_1 : dq_w cX4_sortEnds 24 [132, 2, 1, 167, 255, 231, 3, 61, 28, 43, 180, 0, 38, 162, 0, 43, 42, 180, 0, 9, 43, 180, 0, 82, 28, 46, 92] = true := by decide +kernel
theorem dX4_sortEnds_24 : decode cX4_sortEnds 24 = .ok (.iinc 2 1, 3) := dq132 bw_cX4_sortEnds_1 0 rfl rfl rfl
theorem dX4_sortEnds_27 : decode cX4_sortEnds 27 = .ok (.goto (-25), 3) := dq167 bw_cX4_sortEnds_1 3 rfl rfl rfl
theorem dX4_sortEnds_30 : decode cX4_sortEnds 30 = .ok (.iconst 0, 1) := dq3 bw_cX4_sortEnds_1 6 rfl rfl
theorem dX4_sortEnds_31 : decode cX4_sortEnds 31 = .ok (.istore_n 2, 1) := dq61 bw_cX4_sortEnds_1 7 rfl rfl
theorem dX4_sortEnds_32 : decode cX4_sortEnds 32 = .ok (.iload_n 2, 1) := dq28 bw_cX4_sortEnds_1 8 rfl rfl
theorem dX4_sortEnds_33 : decode cX4_sortEnds 33 = .ok (.aload_n 1, 1) := dq43 bw_cX4_sortEnds_1 9 rfl rfl
theorem dX4_sortEnds_34 : decode cX4_sortEnds 34 = .ok (.getfield 38, 3) := dq180 bw_cX4_sortEnds_1 10 rfl rfl rfl
theorem dX4_sortEnds_37 : decode cX4_sortEnds 37 = .ok (.if_icmp .ge 43, 3) := dq162 bw_cX4_sortEnds_1 13 rfl rfl rfl
theorem dX4_sortEnds_40 : decode cX4_sortEnds 40 = .ok (.aload_n 0, 1) := dq42 bw_cX4_sortEnds_1 16 rfl rfl
theorem dX4_sortEnds_41 : decode cX4_sortEnds 41 = .ok (.getfield 9, 3) := dq180 bw_cX4_sortEnds_1 17 rfl rfl rfl
theorem dX4_sortEnds_44 : decode cX4_sortEnds 44 = .ok (.aload_n 1, 1) := dq43 bw_cX4_sortEnds_1 20 rfl rfl
theorem dX4_sortEnds_45 : decode cX4_sortEnds 45 = .ok (.getfield 82, 3) := dq180 bw_cX4_sortEnds_1 21 rfl rfl rfl
theorem bw_cX4_sortEnds_2 : dq_w cX4_sortEnds 48 [28, 46, 92, 46, 4, 28, 120, 128, 79, 42, 180, 0, 15, 43, 180, 0, 85, 28, 46, 92, 46, 4, 28, 120, 128, 79, 132] = true := by decide +kernel
theorem dX4_sortEnds_48 : decode cX4_sortEnds 48 = .ok (.iload_n 2, 1) := dq28 bw_cX4_sortEnds_2 0 rfl rfl
theorem dX4_sortEnds_49 : decode cX4_sortEnds 49 = .ok (.iaload, 1) := dq46 bw_cX4_sortEnds_2 1 rfl rfl
theorem dX4_sortEnds_50 : decode cX4_sortEnds 50 = .ok (.dup2, 1) := dq92 bw_cX4_sortEnds_2 2 rfl rfl
theorem dX4_sortEnds_51 : decode cX4_sortEnds 51 = .ok (.iaload, 1) := dq46 bw_cX4_sortEnds_2 3 rfl rfl
theorem dX4_sortEnds_52 : decode cX4_sortEnds 52 = .ok (.iconst 1, 1) := dq4 bw_cX4_sortEnds_2 4 rfl rfl
theorem dX4_sortEnds_53 : decode cX4_sortEnds 53 = .ok (.iload_n 2, 1) := dq28 bw_cX4_sortEnds_2 5 rfl rfl
theorem dX4_sortEnds_54 : decode cX4_sortEnds 54 = .ok (.ishl, 1) := dq120 bw_cX4_sortEnds_2 6 rfl rfl
theorem dX4_sortEnds_55 : decode cX4_sortEnds 55 = .ok (.ior, 1) := dq128 bw_cX4_sortEnds_2 7 rfl rfl
theorem dX4_sortEnds_56 : decode cX4_sortEnds 56 = .ok (.iastore, 1) := dq79 bw_cX4_sortEnds_2 8 rfl rfl
theorem dX4_sortEnds_57 : decode cX4_sortEnds 57 = .ok (.aload_n 0, 1) := dq42 bw_cX4_sortEnds_2 9 rfl rfl
theorem dX4_sortEnds_58 : decode cX4_sortEnds 58 = .ok (.getfield 15, 3) := dq180 bw_cX4_sortEnds_2 10 rfl rfl rfl
theorem dX4_sortEnds_61 : decode cX4_sortEnds 61 = .ok (.aload_n 1, 1) := dq43 bw_cX4_sortEnds_2 13 rfl rfl
theorem dX4_sortEnds_62 : decode cX4_sortEnds 62 = .ok (.getfield 85, 3) := dq180 bw_cX4_sortEnds_2 14 rfl rfl rfl
theorem dX4_sortEnds_65 : decode cX4_sortEnds 65 = .ok (.iload_n 2, 1) := dq28 bw_cX4_sortEnds_2 17 rfl rfl
theorem dX4_sortEnds_66 : decode cX4_sortEnds 66 = .ok (.iaload, 1) := dq46 bw_cX4_sortEnds_2 18 rfl rfl
theorem dX4_sortEnds_67 : decode cX4_sortEnds 67 = .ok (.dup2, 1) := dq92 bw_cX4_sortEnds_2 19 rfl rfl
theorem dX4_sortEnds_68 : decode cX4_sortEnds 68 = .ok (.iaload, 1) := dq46 bw_cX4_sortEnds_2 20 rfl rfl
theorem dX4_sortEnds_69 : decode cX4_sortEnds 69 = .ok (.iconst 1, 1) := dq4 bw_cX4_sortEnds_2 21 rfl rfl
theorem dX4_sortEnds_70 : decode cX4_sortEnds 70 = .ok (.iload_n 2, 1) := dq28 bw_cX4_sortEnds_2 22 rfl rfl
theorem dX4_sortEnds_71 : decode cX4_sortEnds 71 = .ok (.ishl, 1) := dq120 bw_cX4_sortEnds_2 23 rfl rfl
theorem bw_cX4_sortEnds_3 : dq_w cX4_sortEnds 72 [128, 79, 132, 2, 1, 167, 255, 211, 177] = true := by decide +kernel
theorem dX4_sortEnds_72 : decode cX4_sortEnds 72 = .ok (.ior, 1) := dq128 bw_cX4_sortEnds_3 0 rfl rfl
theorem dX4_sortEnds_73 : decode cX4_sortEnds 73 = .ok (.iastore, 1) := dq79 bw_cX4_sortEnds_3 1 rfl rfl
theorem dX4_sortEnds_74 : decode cX4_sortEnds 74 = .ok (.iinc 2 1, 3) := dq132 bw_cX4_sortEnds_3 2 rfl rfl rfl
theorem dX4_sortEnds_77 : decode cX4_sortEnds 77 = .ok (.goto (-45), 3) := dq167 bw_cX4_sortEnds_3 5 rfl rfl rfl
theorem dX4_sortEnds_80 : decode cX4_sortEnds 80 = .ok (.return_, 1) := dq177 bw_cX4_sortEnds_3 8 rfl rfl
theorem bw_cX4_isBalanced_0 : dq_w cX4_isBalanced 0 [3, 62, 29, 43, 180, 0, 79, 162, 0, 62, 42, 180, 0, 9, 29, 46, 28, 2, 130, 126, 42, 180, 0, 15, 29, 46, 28] = true := by decide +kernel
theorem dX4_isBalanced_0 : decode cX4_isBalanced 0 = .ok (.iconst 0, 1) := dq3 bw_cX4_isBalanced_0 0 rfl rfl
theorem dX4_isBalanced_1 : decode cX4_isBalanced 1 = .ok (.istore_n 3, 1) := dq62 bw_cX4_isBalanced_0 1 rfl rfl
theorem dX4_isBalanced_2 : decode cX4_isBalanced 2 = .ok (.iload_n 3, 1) := dq29 bw_cX4_isBalanced_0 2 rfl rfl
theorem dX4_isBalanced_3 : decode cX4_isBalanced 3 = .ok (.aload_n 1, 1) := dq43 bw_cX4_isBalanced_0 3 rfl rfl
theorem dX4_isBalanced_4 : decode cX4_isBalanced 4 = .ok (.getfield 79, 3) := dq180 bw_cX4_isBalanced_0 4 rfl rfl rfl
theorem dX4_isBalanced_7 : decode cX4_isBalanced 7 = .ok (.if_icmp .ge 62, 3) := dq162 bw_cX4_isBalanced_0 7 rfl rfl rfl
theorem dX4_isBalanced_10 : decode cX4_isBalanced 10 = .ok (.aload_n 0, 1) := dq42 bw_cX4_isBalanced_0 10 rfl rfl
theorem dX4_isBalanced_11 : decode cX4_isBalanced 11 = .ok (.getfield 9, 3) := dq180 bw_cX4_isBalanced_0 11 rfl rfl rfl
theorem dX4_isBalanced_14 : decode cX4_isBalanced 14 = .ok (.iload_n 3, 1) := dq29 bw_cX4_isBalanced_0 14 rfl rfl
theorem dX4_isBalanced_15 : decode cX4_isBalanced 15 = .ok (.iaload, 1) := dq46 bw_cX4_isBalanced_0 15 rfl rfl
theorem dX4_isBalanced_16 : decode cX4_isBalanced 16 = .ok (.iload_n 2, 1) := dq28 bw_cX4_isBalanced_0 16 rfl rfl
theorem dX4_isBalanced_17 : decode cX4_isBalanced 17 = .ok (.iconst (-1), 1) := dq2 bw_cX4_isBalanced_0 17 rfl rfl
theorem dX4_isBalanced_18 : decode cX4_isBalanced 18 = .ok (.ixor, 1) := dq130 bw_cX4_isBalanced_0 18 rfl rfl
theorem dX4_isBalanced_19 : decode cX4_isBalanced 19 = .ok (.iand, 1) := dq126 bw_cX4_isBalanced_0 19 rfl rfl
theorem dX4_isBalanced_20 : decode cX4_isBalanced 20 = .ok (.aload_n 0, 1) := dq42 bw_cX4_isBalanced_0 20 rfl rfl
theorem dX4_isBalanced_21 : decode cX4_isBalanced 21 = .ok (.getfield 15, 3) := dq180 bw_cX4_isBalanced_0 21 rfl rfl rfl
theorem bw_cX4_isBalanced_1 : dq_w cX4_isBalanced 24 [29, 46, 28, 126, 128, 54, 4, 42, 180, 0, 9, 29, 46, 42, 180, 0, 15, 29, 46, 128, 184, 0, 88, 54, 5, 5, 21] = true := by decide +kernel
theorem dX4_isBalanced_24 : decode cX4_isBalanced 24 = .ok (.iload_n 3, 1) := dq29 bw_cX4_isBalanced_1 0 rfl rfl
theorem dX4_isBalanced_25 : decode cX4_isBalanced 25 = .ok (.iaload, 1) := dq46 bw_cX4_isBalanced_1 1 rfl rfl
theorem dX4_isBalanced_26 : decode cX4_isBalanced 26 = .ok (.iload_n 2, 1) := dq28 bw_cX4_isBalanced_1 2 rfl rfl
theorem dX4_isBalanced_27 : decode cX4_isBalanced 27 = .ok (.iand, 1) := dq126 bw_cX4_isBalanced_1 3 rfl rfl
theorem dX4_isBalanced_28 : decode cX4_isBalanced 28 = .ok (.ior, 1) := dq128 bw_cX4_isBalanced_1 4 rfl rfl
theorem dX4_isBalanced_29 : decode cX4_isBalanced 29 = .ok (.istore 4, 2) := dq54 bw_cX4_isBalanced_1 5 rfl rfl
theorem dX4_isBalanced_31 : decode cX4_isBalanced 31 = .ok (.aload_n 0, 1) := dq42 bw_cX4_isBalanced_1 7 rfl rfl
theorem dX4_isBalanced_32 : decode cX4_isBalanced 32 = .ok (.getfield 9, 3) := dq180 bw_cX4_isBalanced_1 8 rfl rfl rfl
theorem dX4_isBalanced_35 : decode cX4_isBalanced 35 = .ok (.iload_n 3, 1) := dq29 bw_cX4_isBalanced_1 11 rfl rfl
theorem dX4_isBalanced_36 : decode cX4_isBalanced 36 = .ok (.iaload, 1) := dq46 bw_cX4_isBalanced_1 12 rfl rfl
theorem dX4_isBalanced_37 : decode cX4_isBalanced 37 = .ok (.aload_n 0, 1) := dq42 bw_cX4_isBalanced_1 13 rfl rfl
theorem dX4_isBalanced_38 : decode cX4_isBalanced 38 = .ok (.getfield 15, 3) := dq180 bw_cX4_isBalanced_1 14 rfl rfl rfl
theorem dX4_isBalanced_41 : decode cX4_isBalanced 41 = .ok (.iload_n 3, 1) := dq29 bw_cX4_isBalanced_1 17 rfl rfl
theorem dX4_isBalanced_42 : decode cX4_isBalanced 42 = .ok (.iaload, 1) := dq46 bw_cX4_isBalanced_1 18 rfl rfl
theorem dX4_isBalanced_43 : decode cX4_isBalanced 43 = .ok (.ior, 1) := dq128 bw_cX4_isBalanced_1 19 rfl rfl
theorem dX4_isBalanced_44 : decode cX4_isBalanced 44 = .ok (.invokestatic 88, 3) := dq184 bw_cX4_isBalanced_1 20 rfl rfl rfl
theorem dX4_isBalanced_47 : decode cX4_isBalanced 47 = .ok (.istore 5, 2) := dq54 bw_cX4_isBalanced_1 23 rfl rfl
theorem bw_cX4_isBalanced_2 : dq_w cX4_isBalanced 48 [5, 5, 21, 4, 184, 0, 88, 104, 21, 5, 159, 0, 5, 3, 172, 132, 3, 1, 167, 255, 192, 4, 172] = true := by decide +kernel
theorem dX4_isBalanced_49 : decode cX4_isBalanced 49 = .ok (.iconst 2, 1) := dq5 bw_cX4_isBalanced_2 1 rfl rfl
theorem dX4_isBalanced_50 : decode cX4_isBalanced 50 = .ok (.iload 4, 2) := dq21 bw_cX4_isBalanced_2 2 rfl rfl
theorem dX4_isBalanced_52 : decode cX4_isBalanced 52 = .ok (.invokestatic 88, 3) := dq184 bw_cX4_isBalanced_2 4 rfl rfl rfl
theorem dX4_isBalanced_55 : decode cX4_isBalanced 55 = .ok (.imul, 1) := dq104 bw_cX4_isBalanced_2 7 rfl rfl
theorem dX4_isBalanced_56 : decode cX4_isBalanced 56 = .ok (.iload 5, 2) := dq21 bw_cX4_isBalanced_2 8 rfl rfl
theorem dX4_isBalanced_58 : decode cX4_isBalanced 58 = .ok (.if_icmp .eq 5, 3) := dq159 bw_cX4_isBalanced_2 10 rfl rfl rfl
theorem dX4_isBalanced_61 : decode cX4_isBalanced 61 = .ok (.iconst 0, 1) := dq3 bw_cX4_isBalanced_2 13 rfl rfl
theorem dX4_isBalanced_62 : decode cX4_isBalanced 62 = .ok (.ireturn, 1) := dq172 bw_cX4_isBalanced_2 14 rfl rfl
theorem dX4_isBalanced_63 : decode cX4_isBalanced 63 = .ok (.iinc 3 1, 3) := dq132 bw_cX4_isBalanced_2 15 rfl rfl rfl
theorem dX4_isBalanced_66 : decode cX4_isBalanced 66 = .ok (.goto (-64), 3) := dq167 bw_cX4_isBalanced_2 18 rfl rfl rfl
theorem dX4_isBalanced_69 : decode cX4_isBalanced 69 = .ok (.iconst 1, 1) := dq4 bw_cX4_isBalanced_2 21 rfl rfl
theorem dX4_isBalanced_70 : decode cX4_isBalanced 70 = .ok (.ireturn, 1) := dq172 bw_cX4_isBalanced_2 22 rfl rfl
theorem bw_cX4_windOf_0 : dq_w cX4_windOf 0 [3, 62, 3, 54, 4, 21, 4, 43, 180, 0, 38, 162, 0, 28, 28, 21, 4, 122, 4, 126, 153, 0, 13, 29, 43, 180, 0] = true := by decide +kernel
theorem dX4_windOf_0 : decode cX4_windOf 0 = .ok (.iconst 0, 1) := dq3 bw_cX4_windOf_0 0 rfl rfl
theorem dX4_windOf_1 : decode cX4_windOf 1 = .ok (.istore_n 3, 1) := dq62 bw_cX4_windOf_0 1 rfl rfl
theorem dX4_windOf_2 : decode cX4_windOf 2 = .ok (.iconst 0, 1) := dq3 bw_cX4_windOf_0 2 rfl rfl
theorem dX4_windOf_3 : decode cX4_windOf 3 = .ok (.istore 4, 2) := dq54 bw_cX4_windOf_0 3 rfl rfl
theorem dX4_windOf_5 : decode cX4_windOf 5 = .ok (.iload 4, 2) := dq21 bw_cX4_windOf_0 5 rfl rfl
theorem dX4_windOf_7 : decode cX4_windOf 7 = .ok (.aload_n 1, 1) := dq43 bw_cX4_windOf_0 7 rfl rfl
theorem dX4_windOf_8 : decode cX4_windOf 8 = .ok (.getfield 38, 3) := dq180 bw_cX4_windOf_0 8 rfl rfl rfl
theorem dX4_windOf_11 : decode cX4_windOf 11 = .ok (.if_icmp .ge 28, 3) := dq162 bw_cX4_windOf_0 11 rfl rfl rfl
theorem dX4_windOf_14 : decode cX4_windOf 14 = .ok (.iload_n 2, 1) := dq28 bw_cX4_windOf_0 14 rfl rfl
theorem dX4_windOf_15 : decode cX4_windOf 15 = .ok (.iload 4, 2) := dq21 bw_cX4_windOf_0 15 rfl rfl
theorem dX4_windOf_17 : decode cX4_windOf 17 = .ok (.ishr, 1) := dq122 bw_cX4_windOf_0 17 rfl rfl
theorem dX4_windOf_18 : decode cX4_windOf 18 = .ok (.iconst 1, 1) := dq4 bw_cX4_windOf_0 18 rfl rfl
theorem dX4_windOf_19 : decode cX4_windOf 19 = .ok (.iand, 1) := dq126 bw_cX4_windOf_0 19 rfl rfl
theorem dX4_windOf_20 : decode cX4_windOf 20 = .ok (.ifCond .eq 13, 3) := dq153 bw_cX4_windOf_0 20 rfl rfl rfl
theorem dX4_windOf_23 : decode cX4_windOf 23 = .ok (.iload_n 3, 1) := dq29 bw_cX4_windOf_0 23 rfl rfl
theorem bw_cX4_windOf_1 : dq_w cX4_windOf 24 [43, 180, 0, 63, 21, 4, 46, 96, 62, 132, 4, 1, 167, 255, 225, 29, 172] = true := by decide +kernel
theorem dX4_windOf_24 : decode cX4_windOf 24 = .ok (.aload_n 1, 1) := dq43 bw_cX4_windOf_1 0 rfl rfl
theorem dX4_windOf_25 : decode cX4_windOf 25 = .ok (.getfield 63, 3) := dq180 bw_cX4_windOf_1 1 rfl rfl rfl
theorem dX4_windOf_28 : decode cX4_windOf 28 = .ok (.iload 4, 2) := dq21 bw_cX4_windOf_1 4 rfl rfl
theorem dX4_windOf_30 : decode cX4_windOf 30 = .ok (.iaload, 1) := dq46 bw_cX4_windOf_1 6 rfl rfl
theorem dX4_windOf_31 : decode cX4_windOf 31 = .ok (.iadd, 1) := dq96 bw_cX4_windOf_1 7 rfl rfl
theorem dX4_windOf_32 : decode cX4_windOf 32 = .ok (.istore_n 3, 1) := dq62 bw_cX4_windOf_1 8 rfl rfl
theorem dX4_windOf_33 : decode cX4_windOf 33 = .ok (.iinc 4 1, 3) := dq132 bw_cX4_windOf_1 9 rfl rfl rfl
theorem dX4_windOf_36 : decode cX4_windOf 36 = .ok (.goto (-31), 3) := dq167 bw_cX4_windOf_1 12 rfl rfl rfl
theorem dX4_windOf_39 : decode cX4_windOf 39 = .ok (.iload_n 3, 1) := dq29 bw_cX4_windOf_1 15 rfl rfl
theorem dX4_windOf_40 : decode cX4_windOf 40 = .ok (.ireturn, 1) := dq172 bw_cX4_windOf_1 16 rfl rfl
theorem bw_cX4_cheapestTurns_0 : dq_w cX4_cheapestTurns 0 [42, 43, 182, 0, 66, 3, 61, 18, 70, 62, 3, 54, 4, 21, 4, 43, 182, 0, 32, 163, 0, 40, 42, 43, 21, 4, 182] = true := by decide +kernel
theorem dX4_cheapestTurns_0 : decode cX4_cheapestTurns 0 = .ok (.aload_n 0, 1) := dq42 bw_cX4_cheapestTurns_0 0 rfl rfl
theorem dX4_cheapestTurns_1 : decode cX4_cheapestTurns 1 = .ok (.aload_n 1, 1) := dq43 bw_cX4_cheapestTurns_0 1 rfl rfl
theorem dX4_cheapestTurns_2 : decode cX4_cheapestTurns 2 = .ok (.invokevirtual 66, 3) := dq182 bw_cX4_cheapestTurns_0 2 rfl rfl rfl
theorem dX4_cheapestTurns_5 : decode cX4_cheapestTurns 5 = .ok (.iconst 0, 1) := dq3 bw_cX4_cheapestTurns_0 5 rfl rfl
theorem dX4_cheapestTurns_6 : decode cX4_cheapestTurns 6 = .ok (.istore_n 2, 1) := dq61 bw_cX4_cheapestTurns_0 6 rfl rfl
theorem dX4_cheapestTurns_7 : decode cX4_cheapestTurns 7 = .ok (.ldc 70, 2) := dq18 bw_cX4_cheapestTurns_0 7 rfl rfl
theorem dX4_cheapestTurns_9 : decode cX4_cheapestTurns 9 = .ok (.istore_n 3, 1) := dq62 bw_cX4_cheapestTurns_0 9 rfl rfl
theorem dX4_cheapestTurns_10 : decode cX4_cheapestTurns 10 = .ok (.iconst 0, 1) := dq3 bw_cX4_cheapestTurns_0 10 rfl rfl
theorem dX4_cheapestTurns_11 : decode cX4_cheapestTurns 11 = .ok (.istore 4, 2) := dq54 bw_cX4_cheapestTurns_0 11 rfl rfl
theorem dX4_cheapestTurns_13 : decode cX4_cheapestTurns 13 = .ok (.iload 4, 2) := dq21 bw_cX4_cheapestTurns_0 13 rfl rfl
theorem dX4_cheapestTurns_15 : decode cX4_cheapestTurns 15 = .ok (.aload_n 1, 1) := dq43 bw_cX4_cheapestTurns_0 15 rfl rfl
theorem dX4_cheapestTurns_16 : decode cX4_cheapestTurns 16 = .ok (.invokevirtual 32, 3) := dq182 bw_cX4_cheapestTurns_0 16 rfl rfl rfl
theorem dX4_cheapestTurns_19 : decode cX4_cheapestTurns 19 = .ok (.if_icmp .gt 40, 3) := dq163 bw_cX4_cheapestTurns_0 19 rfl rfl rfl
theorem dX4_cheapestTurns_22 : decode cX4_cheapestTurns 22 = .ok (.aload_n 0, 1) := dq42 bw_cX4_cheapestTurns_0 22 rfl rfl
theorem dX4_cheapestTurns_23 : decode cX4_cheapestTurns 23 = .ok (.aload_n 1, 1) := dq43 bw_cX4_cheapestTurns_0 23 rfl rfl
theorem bw_cX4_cheapestTurns_1 : dq_w cX4_cheapestTurns 24 [21, 4, 182, 0, 71, 153, 0, 24, 42, 43, 21, 4, 182, 0, 75, 54, 5, 21, 5, 29, 162, 0, 9, 21, 5, 62, 21] = true := by decide +kernel
theorem dX4_cheapestTurns_24 : decode cX4_cheapestTurns 24 = .ok (.iload 4, 2) := dq21 bw_cX4_cheapestTurns_1 0 rfl rfl
theorem dX4_cheapestTurns_26 : decode cX4_cheapestTurns 26 = .ok (.invokevirtual 71, 3) := dq182 bw_cX4_cheapestTurns_1 2 rfl rfl rfl
theorem dX4_cheapestTurns_29 : decode cX4_cheapestTurns 29 = .ok (.ifCond .eq 24, 3) := dq153 bw_cX4_cheapestTurns_1 5 rfl rfl rfl
theorem dX4_cheapestTurns_32 : decode cX4_cheapestTurns 32 = .ok (.aload_n 0, 1) := dq42 bw_cX4_cheapestTurns_1 8 rfl rfl
theorem dX4_cheapestTurns_33 : decode cX4_cheapestTurns 33 = .ok (.aload_n 1, 1) := dq43 bw_cX4_cheapestTurns_1 9 rfl rfl
theorem dX4_cheapestTurns_34 : decode cX4_cheapestTurns 34 = .ok (.iload 4, 2) := dq21 bw_cX4_cheapestTurns_1 10 rfl rfl
theorem dX4_cheapestTurns_36 : decode cX4_cheapestTurns 36 = .ok (.invokevirtual 75, 3) := dq182 bw_cX4_cheapestTurns_1 12 rfl rfl rfl
theorem dX4_cheapestTurns_39 : decode cX4_cheapestTurns 39 = .ok (.istore 5, 2) := dq54 bw_cX4_cheapestTurns_1 15 rfl rfl
theorem dX4_cheapestTurns_41 : decode cX4_cheapestTurns 41 = .ok (.iload 5, 2) := dq21 bw_cX4_cheapestTurns_1 17 rfl rfl
theorem dX4_cheapestTurns_43 : decode cX4_cheapestTurns 43 = .ok (.iload_n 3, 1) := dq29 bw_cX4_cheapestTurns_1 19 rfl rfl
theorem dX4_cheapestTurns_44 : decode cX4_cheapestTurns 44 = .ok (.if_icmp .ge 9, 3) := dq162 bw_cX4_cheapestTurns_1 20 rfl rfl rfl
theorem dX4_cheapestTurns_47 : decode cX4_cheapestTurns 47 = .ok (.iload 5, 2) := dq21 bw_cX4_cheapestTurns_1 23 rfl rfl
theorem bw_cX4_cheapestTurns_2 : dq_w cX4_cheapestTurns 48 [5, 62, 21, 4, 61, 132, 4, 1, 167, 255, 213, 28, 172] = true := by decide +kernel
theorem dX4_cheapestTurns_49 : decode cX4_cheapestTurns 49 = .ok (.istore_n 3, 1) := dq62 bw_cX4_cheapestTurns_2 1 rfl rfl
theorem dX4_cheapestTurns_50 : decode cX4_cheapestTurns 50 = .ok (.iload 4, 2) := dq21 bw_cX4_cheapestTurns_2 2 rfl rfl
theorem dX4_cheapestTurns_52 : decode cX4_cheapestTurns 52 = .ok (.istore_n 2, 1) := dq61 bw_cX4_cheapestTurns_2 4 rfl rfl
theorem dX4_cheapestTurns_53 : decode cX4_cheapestTurns 53 = .ok (.iinc 4 1, 3) := dq132 bw_cX4_cheapestTurns_2 5 rfl rfl rfl
theorem dX4_cheapestTurns_56 : decode cX4_cheapestTurns 56 = .ok (.goto (-43), 3) := dq167 bw_cX4_cheapestTurns_2 8 rfl rfl rfl
theorem dX4_cheapestTurns_59 : decode cX4_cheapestTurns 59 = .ok (.iload_n 2, 1) := dq28 bw_cX4_cheapestTurns_2 11 rfl rfl
theorem dX4_cheapestTurns_60 : decode cX4_cheapestTurns 60 = .ok (.ireturn, 1) := dq172 bw_cX4_cheapestTurns_2 12 rfl rfl
theorem bw_cX11_round_0 : dq_w cX11_round 0 [42, 180, 0, 19, 182, 1, 17, 60, 42, 180, 0, 19, 27, 182, 1, 20, 154, 0, 13, 42, 180, 0, 19, 182, 1, 39, 154] = true := by decide +kernel
theorem dX11_round_0 : decode cX11_round 0 = .ok (.aload_n 0, 1) := dq42 bw_cX11_round_0 0 rfl rfl
theorem dX11_round_1 : decode cX11_round 1 = .ok (.getfield 19, 3) := dq180 bw_cX11_round_0 1 rfl rfl rfl
theorem dX11_round_4 : decode cX11_round 4 = .ok (.invokevirtual 273, 3) := dq182 bw_cX11_round_0 4 rfl rfl rfl
theorem dX11_round_7 : decode cX11_round 7 = .ok (.istore_n 1, 1) := dq60 bw_cX11_round_0 7 rfl rfl
theorem dX11_round_8 : decode cX11_round 8 = .ok (.aload_n 0, 1) := dq42 bw_cX11_round_0 8 rfl rfl
theorem dX11_round_9 : decode cX11_round 9 = .ok (.getfield 19, 3) := dq180 bw_cX11_round_0 9 rfl rfl rfl
theorem dX11_round_12 : decode cX11_round 12 = .ok (.iload_n 1, 1) := dq27 bw_cX11_round_0 12 rfl rfl
theorem dX11_round_13 : decode cX11_round 13 = .ok (.invokevirtual 276, 3) := dq182 bw_cX11_round_0 13 rfl rfl rfl
theorem dX11_round_16 : decode cX11_round 16 = .ok (.ifCond .ne 13, 3) := dq154 bw_cX11_round_0 16 rfl rfl rfl
theorem dX11_round_19 : decode cX11_round 19 = .ok (.aload_n 0, 1) := dq42 bw_cX11_round_0 19 rfl rfl
theorem dX11_round_20 : decode cX11_round 20 = .ok (.getfield 19, 3) := dq180 bw_cX11_round_0 20 rfl rfl rfl
theorem dX11_round_23 : decode cX11_round 23 = .ok (.invokevirtual 295, 3) := dq182 bw_cX11_round_0 23 rfl rfl rfl
theorem bw_cX11_round_1 : dq_w cX11_round 24 [1, 39, 154, 0, 6, 16, 254, 172, 42, 180, 0, 56, 42, 180, 0, 19, 182, 1, 42, 61, 3, 62, 3, 54, 4, 21, 4] = true := by decide +kernel
theorem dX11_round_26 : decode cX11_round 26 = .ok (.ifCond .ne 6, 3) := dq154 bw_cX11_round_1 2 rfl rfl rfl
theorem dX11_round_29 : decode cX11_round 29 = .ok (.bipush (-2), 2) := dq16 bw_cX11_round_1 5 rfl rfl rfl
theorem dX11_round_31 : decode cX11_round 31 = .ok (.ireturn, 1) := dq172 bw_cX11_round_1 7 rfl rfl
theorem dX11_round_32 : decode cX11_round 32 = .ok (.aload_n 0, 1) := dq42 bw_cX11_round_1 8 rfl rfl
theorem dX11_round_33 : decode cX11_round 33 = .ok (.getfield 56, 3) := dq180 bw_cX11_round_1 9 rfl rfl rfl
theorem dX11_round_36 : decode cX11_round 36 = .ok (.aload_n 0, 1) := dq42 bw_cX11_round_1 12 rfl rfl
theorem dX11_round_37 : decode cX11_round 37 = .ok (.getfield 19, 3) := dq180 bw_cX11_round_1 13 rfl rfl rfl
theorem dX11_round_40 : decode cX11_round 40 = .ok (.invokevirtual 298, 3) := dq182 bw_cX11_round_1 16 rfl rfl rfl
theorem dX11_round_43 : decode cX11_round 43 = .ok (.istore_n 2, 1) := dq61 bw_cX11_round_1 19 rfl rfl
theorem dX11_round_44 : decode cX11_round 44 = .ok (.iconst 0, 1) := dq3 bw_cX11_round_1 20 rfl rfl
theorem dX11_round_45 : decode cX11_round 45 = .ok (.istore_n 3, 1) := dq62 bw_cX11_round_1 21 rfl rfl
theorem dX11_round_46 : decode cX11_round 46 = .ok (.iconst 0, 1) := dq3 bw_cX11_round_1 22 rfl rfl
theorem dX11_round_47 : decode cX11_round 47 = .ok (.istore 4, 2) := dq54 bw_cX11_round_1 23 rfl rfl
theorem bw_cX11_round_2 : dq_w cX11_round 48 [4, 21, 4, 42, 180, 0, 19, 180, 0, 168, 162, 0, 22, 29, 42, 180, 0, 19, 180, 0, 122, 21, 4, 46, 96, 62, 132] = true := by decide +kernel
theorem dX11_round_49 : decode cX11_round 49 = .ok (.iload 4, 2) := dq21 bw_cX11_round_2 1 rfl rfl
theorem dX11_round_51 : decode cX11_round 51 = .ok (.aload_n 0, 1) := dq42 bw_cX11_round_2 3 rfl rfl
theorem dX11_round_52 : decode cX11_round 52 = .ok (.getfield 19, 3) := dq180 bw_cX11_round_2 4 rfl rfl rfl
theorem dX11_round_55 : decode cX11_round 55 = .ok (.getfield 168, 3) := dq180 bw_cX11_round_2 7 rfl rfl rfl
theorem dX11_round_58 : decode cX11_round 58 = .ok (.if_icmp .ge 22, 3) := dq162 bw_cX11_round_2 10 rfl rfl rfl
theorem dX11_round_61 : decode cX11_round 61 = .ok (.iload_n 3, 1) := dq29 bw_cX11_round_2 13 rfl rfl
theorem dX11_round_62 : decode cX11_round 62 = .ok (.aload_n 0, 1) := dq42 bw_cX11_round_2 14 rfl rfl
theorem dX11_round_63 : decode cX11_round 63 = .ok (.getfield 19, 3) := dq180 bw_cX11_round_2 15 rfl rfl rfl
theorem dX11_round_66 : decode cX11_round 66 = .ok (.getfield 122, 3) := dq180 bw_cX11_round_2 18 rfl rfl rfl
theorem dX11_round_69 : decode cX11_round 69 = .ok (.iload 4, 2) := dq21 bw_cX11_round_2 21 rfl rfl
theorem dX11_round_71 : decode cX11_round 71 = .ok (.iaload, 1) := dq46 bw_cX11_round_2 23 rfl rfl
theorem bw_cX11_round_3 : dq_w cX11_round 72 [96, 62, 132, 4, 1, 167, 255, 228, 42, 180, 0, 26, 28, 182, 0, 224, 29, 42, 180, 0, 56, 42, 180, 0, 19, 28, 182] = true := by decide +kernel
theorem dX11_round_72 : decode cX11_round 72 = .ok (.iadd, 1) := dq96 bw_cX11_round_3 0 rfl rfl
theorem dX11_round_73 : decode cX11_round 73 = .ok (.istore_n 3, 1) := dq62 bw_cX11_round_3 1 rfl rfl
theorem dX11_round_74 : decode cX11_round 74 = .ok (.iinc 4 1, 3) := dq132 bw_cX11_round_3 2 rfl rfl rfl
theorem dX11_round_77 : decode cX11_round 77 = .ok (.goto (-28), 3) := dq167 bw_cX11_round_3 5 rfl rfl rfl
theorem dX11_round_80 : decode cX11_round 80 = .ok (.aload_n 0, 1) := dq42 bw_cX11_round_3 8 rfl rfl
theorem dX11_round_81 : decode cX11_round 81 = .ok (.getfield 26, 3) := dq180 bw_cX11_round_3 9 rfl rfl rfl
theorem dX11_round_84 : decode cX11_round 84 = .ok (.iload_n 2, 1) := dq28 bw_cX11_round_3 12 rfl rfl
theorem dX11_round_85 : decode cX11_round 85 = .ok (.invokevirtual 224, 3) := dq182 bw_cX11_round_3 13 rfl rfl rfl
theorem dX11_round_88 : decode cX11_round 88 = .ok (.iload_n 3, 1) := dq29 bw_cX11_round_3 16 rfl rfl
theorem dX11_round_89 : decode cX11_round 89 = .ok (.aload_n 0, 1) := dq42 bw_cX11_round_3 17 rfl rfl
theorem dX11_round_90 : decode cX11_round 90 = .ok (.getfield 56, 3) := dq180 bw_cX11_round_3 18 rfl rfl rfl
theorem dX11_round_93 : decode cX11_round 93 = .ok (.aload_n 0, 1) := dq42 bw_cX11_round_3 21 rfl rfl
theorem dX11_round_94 : decode cX11_round 94 = .ok (.getfield 19, 3) := dq180 bw_cX11_round_3 22 rfl rfl rfl
theorem bw_cX11_round_4 : dq_w cX11_round 96 [19, 28, 182, 1, 45, 96, 172] = true := by decide +kernel
theorem dX11_round_97 : decode cX11_round 97 = .ok (.iload_n 2, 1) := dq28 bw_cX11_round_4 1 rfl rfl
theorem dX11_round_98 : decode cX11_round 98 = .ok (.invokevirtual 301, 3) := dq182 bw_cX11_round_4 2 rfl rfl rfl
theorem dX11_round_101 : decode cX11_round 101 = .ok (.iadd, 1) := dq96 bw_cX11_round_4 5 rfl rfl
theorem dX11_round_102 : decode cX11_round 102 = .ok (.ireturn, 1) := dq172 bw_cX11_round_4 6 rfl rfl
theorem bw_cX3_at_0 : dq_w cX3_at 0 [27, 155, 0, 11, 27, 42, 180, 0, 15, 161, 0, 6, 18, 27, 172, 42, 180, 0, 21, 27, 5, 122, 47, 27, 6, 126, 7] = true := by decide +kernel
theorem dX3_at_0 : decode cX3_at 0 = .ok (.iload_n 1, 1) := dq27 bw_cX3_at_0 0 rfl rfl
theorem dX3_at_1 : decode cX3_at 1 = .ok (.ifCond .lt 11, 3) := dq155 bw_cX3_at_0 1 rfl rfl rfl
theorem dX3_at_4 : decode cX3_at 4 = .ok (.iload_n 1, 1) := dq27 bw_cX3_at_0 4 rfl rfl
theorem dX3_at_5 : decode cX3_at 5 = .ok (.aload_n 0, 1) := dq42 bw_cX3_at_0 5 rfl rfl
theorem dX3_at_6 : decode cX3_at 6 = .ok (.getfield 15, 3) := dq180 bw_cX3_at_0 6 rfl rfl rfl
theorem dX3_at_9 : decode cX3_at 9 = .ok (.if_icmp .lt 6, 3) := dq161 bw_cX3_at_0 9 rfl rfl rfl
theorem dX3_at_12 : decode cX3_at 12 = .ok (.ldc 27, 2) := dq18 bw_cX3_at_0 12 rfl rfl
theorem dX3_at_14 : decode cX3_at 14 = .ok (.ireturn, 1) := dq172 bw_cX3_at_0 14 rfl rfl
theorem dX3_at_15 : decode cX3_at 15 = .ok (.aload_n 0, 1) := dq42 bw_cX3_at_0 15 rfl rfl
theorem dX3_at_16 : decode cX3_at 16 = .ok (.getfield 21, 3) := dq180 bw_cX3_at_0 16 rfl rfl rfl
theorem dX3_at_19 : decode cX3_at 19 = .ok (.iload_n 1, 1) := dq27 bw_cX3_at_0 19 rfl rfl
theorem dX3_at_20 : decode cX3_at 20 = .ok (.iconst 2, 1) := dq5 bw_cX3_at_0 20 rfl rfl
theorem dX3_at_21 : decode cX3_at 21 = .ok (.ishr, 1) := dq122 bw_cX3_at_0 21 rfl rfl
theorem dX3_at_22 : decode cX3_at 22 = .ok (.laload, 1) := dq47 bw_cX3_at_0 22 rfl rfl
theorem dX3_at_23 : decode cX3_at 23 = .ok (.iload_n 1, 1) := dq27 bw_cX3_at_0 23 rfl rfl
theorem bw_cX3_at_1 : dq_w cX3_at 24 [6, 126, 7, 120, 123, 136, 18, 27, 126, 172] = true := by decide +kernel
theorem dX3_at_24 : decode cX3_at 24 = .ok (.iconst 3, 1) := dq6 bw_cX3_at_1 0 rfl rfl
theorem dX3_at_25 : decode cX3_at 25 = .ok (.iand, 1) := dq126 bw_cX3_at_1 1 rfl rfl
theorem dX3_at_26 : decode cX3_at 26 = .ok (.iconst 4, 1) := dq7 bw_cX3_at_1 2 rfl rfl
theorem dX3_at_27 : decode cX3_at 27 = .ok (.ishl, 1) := dq120 bw_cX3_at_1 3 rfl rfl
theorem dX3_at_28 : decode cX3_at 28 = .ok (.lshr, 1) := dq123 bw_cX3_at_1 4 rfl rfl
theorem dX3_at_29 : decode cX3_at 29 = .ok (.l2i, 1) := dq136 bw_cX3_at_1 5 rfl rfl
theorem dX3_at_30 : decode cX3_at 30 = .ok (.ldc 27, 2) := dq18 bw_cX3_at_1 6 rfl rfl
theorem dX3_at_32 : decode cX3_at 32 = .ok (.iand, 1) := dq126 bw_cX3_at_1 8 rfl rfl
theorem dX3_at_33 : decode cX3_at 33 = .ok (.ireturn, 1) := dq172 bw_cX3_at_1 9 rfl rfl
theorem bw_cX4_costWithPair_0 : dq_w cX4_costWithPair 0 [42, 180, 0, 23, 21, 5, 17, 4, 0, 104, 21, 4, 4, 29, 120, 2, 130, 126, 96, 182, 0, 108, 54, 6, 18, 70, 21] = true := by decide +kernel
theorem dX4_costWithPair_0 : decode cX4_costWithPair 0 = .ok (.aload_n 0, 1) := dq42 bw_cX4_costWithPair_0 0 rfl rfl
theorem dX4_costWithPair_1 : decode cX4_costWithPair 1 = .ok (.getfield 23, 3) := dq180 bw_cX4_costWithPair_0 1 rfl rfl rfl
theorem dX4_costWithPair_4 : decode cX4_costWithPair 4 = .ok (.iload 5, 2) := dq21 bw_cX4_costWithPair_0 4 rfl rfl
theorem dX4_costWithPair_6 : decode cX4_costWithPair 6 = .ok (.sipush 1024, 3) := dq17 bw_cX4_costWithPair_0 6 rfl rfl rfl
theorem dX4_costWithPair_9 : decode cX4_costWithPair 9 = .ok (.imul, 1) := dq104 bw_cX4_costWithPair_0 9 rfl rfl
theorem dX4_costWithPair_10 : decode cX4_costWithPair 10 = .ok (.iload 4, 2) := dq21 bw_cX4_costWithPair_0 10 rfl rfl
theorem dX4_costWithPair_12 : decode cX4_costWithPair 12 = .ok (.iconst 1, 1) := dq4 bw_cX4_costWithPair_0 12 rfl rfl
theorem dX4_costWithPair_13 : decode cX4_costWithPair 13 = .ok (.iload_n 3, 1) := dq29 bw_cX4_costWithPair_0 13 rfl rfl
theorem dX4_costWithPair_14 : decode cX4_costWithPair 14 = .ok (.ishl, 1) := dq120 bw_cX4_costWithPair_0 14 rfl rfl
theorem dX4_costWithPair_15 : decode cX4_costWithPair 15 = .ok (.iconst (-1), 1) := dq2 bw_cX4_costWithPair_0 15 rfl rfl
theorem dX4_costWithPair_16 : decode cX4_costWithPair 16 = .ok (.ixor, 1) := dq130 bw_cX4_costWithPair_0 16 rfl rfl
theorem dX4_costWithPair_17 : decode cX4_costWithPair 17 = .ok (.iand, 1) := dq126 bw_cX4_costWithPair_0 17 rfl rfl
theorem dX4_costWithPair_18 : decode cX4_costWithPair 18 = .ok (.iadd, 1) := dq96 bw_cX4_costWithPair_0 18 rfl rfl
theorem dX4_costWithPair_19 : decode cX4_costWithPair 19 = .ok (.invokevirtual 108, 3) := dq182 bw_cX4_costWithPair_0 19 rfl rfl rfl
theorem dX4_costWithPair_22 : decode cX4_costWithPair 22 = .ok (.istore 6, 2) := dq54 bw_cX4_costWithPair_0 22 rfl rfl
theorem bw_cX4_costWithPair_1 : dq_w cX4_costWithPair 24 [18, 70, 21, 6, 43, 28, 29, 182, 0, 123, 96, 184, 0, 118, 172] = true := by decide +kernel
theorem dX4_costWithPair_24 : decode cX4_costWithPair 24 = .ok (.ldc 70, 2) := dq18 bw_cX4_costWithPair_1 0 rfl rfl
theorem dX4_costWithPair_26 : decode cX4_costWithPair 26 = .ok (.iload 6, 2) := dq21 bw_cX4_costWithPair_1 2 rfl rfl
theorem dX4_costWithPair_28 : decode cX4_costWithPair 28 = .ok (.aload_n 1, 1) := dq43 bw_cX4_costWithPair_1 4 rfl rfl
theorem dX4_costWithPair_29 : decode cX4_costWithPair 29 = .ok (.iload_n 2, 1) := dq28 bw_cX4_costWithPair_1 5 rfl rfl
theorem dX4_costWithPair_30 : decode cX4_costWithPair 30 = .ok (.iload_n 3, 1) := dq29 bw_cX4_costWithPair_1 6 rfl rfl
theorem dX4_costWithPair_31 : decode cX4_costWithPair 31 = .ok (.invokevirtual 123, 3) := dq182 bw_cX4_costWithPair_1 7 rfl rfl rfl
theorem dX4_costWithPair_34 : decode cX4_costWithPair 34 = .ok (.iadd, 1) := dq96 bw_cX4_costWithPair_1 10 rfl rfl
theorem dX4_costWithPair_35 : decode cX4_costWithPair 35 = .ok (.invokestatic 118, 3) := dq184 bw_cX4_costWithPair_1 11 rfl rfl rfl
theorem dX4_costWithPair_38 : decode cX4_costWithPair 38 = .ok (.ireturn, 1) := dq172 bw_cX4_costWithPair_1 14 rfl rfl
theorem bw_cX4_partnerOf_0 : dq_w cX4_partnerOf 0 [29, 4, 28, 120, 2, 130, 126, 54, 5, 28, 4, 96, 54, 6, 21, 6, 43, 180, 0, 79, 162, 0, 52, 21, 5, 21, 6] = true := by decide +kernel
theorem dX4_partnerOf_0 : decode cX4_partnerOf 0 = .ok (.iload_n 3, 1) := dq29 bw_cX4_partnerOf_0 0 rfl rfl
theorem dX4_partnerOf_1 : decode cX4_partnerOf 1 = .ok (.iconst 1, 1) := dq4 bw_cX4_partnerOf_0 1 rfl rfl
theorem dX4_partnerOf_2 : decode cX4_partnerOf 2 = .ok (.iload_n 2, 1) := dq28 bw_cX4_partnerOf_0 2 rfl rfl
theorem dX4_partnerOf_3 : decode cX4_partnerOf 3 = .ok (.ishl, 1) := dq120 bw_cX4_partnerOf_0 3 rfl rfl
theorem dX4_partnerOf_4 : decode cX4_partnerOf 4 = .ok (.iconst (-1), 1) := dq2 bw_cX4_partnerOf_0 4 rfl rfl
theorem dX4_partnerOf_5 : decode cX4_partnerOf 5 = .ok (.ixor, 1) := dq130 bw_cX4_partnerOf_0 5 rfl rfl
theorem dX4_partnerOf_6 : decode cX4_partnerOf 6 = .ok (.iand, 1) := dq126 bw_cX4_partnerOf_0 6 rfl rfl
theorem dX4_partnerOf_7 : decode cX4_partnerOf 7 = .ok (.istore 5, 2) := dq54 bw_cX4_partnerOf_0 7 rfl rfl
theorem dX4_partnerOf_9 : decode cX4_partnerOf 9 = .ok (.iload_n 2, 1) := dq28 bw_cX4_partnerOf_0 9 rfl rfl
theorem dX4_partnerOf_10 : decode cX4_partnerOf 10 = .ok (.iconst 1, 1) := dq4 bw_cX4_partnerOf_0 10 rfl rfl
theorem dX4_partnerOf_11 : decode cX4_partnerOf 11 = .ok (.iadd, 1) := dq96 bw_cX4_partnerOf_0 11 rfl rfl
theorem dX4_partnerOf_12 : decode cX4_partnerOf 12 = .ok (.istore 6, 2) := dq54 bw_cX4_partnerOf_0 12 rfl rfl
theorem dX4_partnerOf_14 : decode cX4_partnerOf 14 = .ok (.iload 6, 2) := dq21 bw_cX4_partnerOf_0 14 rfl rfl
theorem dX4_partnerOf_16 : decode cX4_partnerOf 16 = .ok (.aload_n 1, 1) := dq43 bw_cX4_partnerOf_0 16 rfl rfl
theorem dX4_partnerOf_17 : decode cX4_partnerOf 17 = .ok (.getfield 79, 3) := dq180 bw_cX4_partnerOf_0 17 rfl rfl rfl
theorem dX4_partnerOf_20 : decode cX4_partnerOf 20 = .ok (.if_icmp .ge 52, 3) := dq162 bw_cX4_partnerOf_0 20 rfl rfl rfl
theorem dX4_partnerOf_23 : decode cX4_partnerOf 23 = .ok (.iload 5, 2) := dq21 bw_cX4_partnerOf_0 23 rfl rfl
theorem bw_cX4_partnerOf_1 : dq_w cX4_partnerOf 24 [5, 21, 6, 122, 4, 126, 153, 0, 36, 42, 43, 28, 21, 6, 21, 5, 21, 4, 182, 0, 114, 42, 180, 0, 23, 21, 4] = true := by decide +kernel
theorem dX4_partnerOf_25 : decode cX4_partnerOf 25 = .ok (.iload 6, 2) := dq21 bw_cX4_partnerOf_1 1 rfl rfl
theorem dX4_partnerOf_27 : decode cX4_partnerOf 27 = .ok (.ishr, 1) := dq122 bw_cX4_partnerOf_1 3 rfl rfl
theorem dX4_partnerOf_28 : decode cX4_partnerOf 28 = .ok (.iconst 1, 1) := dq4 bw_cX4_partnerOf_1 4 rfl rfl
theorem dX4_partnerOf_29 : decode cX4_partnerOf 29 = .ok (.iand, 1) := dq126 bw_cX4_partnerOf_1 5 rfl rfl
theorem dX4_partnerOf_30 : decode cX4_partnerOf 30 = .ok (.ifCond .eq 36, 3) := dq153 bw_cX4_partnerOf_1 6 rfl rfl rfl
theorem dX4_partnerOf_33 : decode cX4_partnerOf 33 = .ok (.aload_n 0, 1) := dq42 bw_cX4_partnerOf_1 9 rfl rfl
theorem dX4_partnerOf_34 : decode cX4_partnerOf 34 = .ok (.aload_n 1, 1) := dq43 bw_cX4_partnerOf_1 10 rfl rfl
theorem dX4_partnerOf_35 : decode cX4_partnerOf 35 = .ok (.iload_n 2, 1) := dq28 bw_cX4_partnerOf_1 11 rfl rfl
theorem dX4_partnerOf_36 : decode cX4_partnerOf 36 = .ok (.iload 6, 2) := dq21 bw_cX4_partnerOf_1 12 rfl rfl
theorem dX4_partnerOf_38 : decode cX4_partnerOf 38 = .ok (.iload 5, 2) := dq21 bw_cX4_partnerOf_1 14 rfl rfl
theorem dX4_partnerOf_40 : decode cX4_partnerOf 40 = .ok (.iload 4, 2) := dq21 bw_cX4_partnerOf_1 16 rfl rfl
theorem dX4_partnerOf_42 : decode cX4_partnerOf 42 = .ok (.invokevirtual 114, 3) := dq182 bw_cX4_partnerOf_1 18 rfl rfl rfl
theorem dX4_partnerOf_45 : decode cX4_partnerOf 45 = .ok (.aload_n 0, 1) := dq42 bw_cX4_partnerOf_1 21 rfl rfl
theorem dX4_partnerOf_46 : decode cX4_partnerOf 46 = .ok (.getfield 23, 3) := dq180 bw_cX4_partnerOf_1 22 rfl rfl rfl
theorem bw_cX4_partnerOf_2 : dq_w cX4_partnerOf 48 [23, 21, 4, 17, 4, 0, 104, 29, 96, 182, 0, 108, 160, 0, 6, 21, 6, 172, 132, 6, 1, 167, 255, 201, 2, 172] = true := by decide +kernel
theorem dX4_partnerOf_49 : decode cX4_partnerOf 49 = .ok (.iload 4, 2) := dq21 bw_cX4_partnerOf_2 1 rfl rfl
theorem dX4_partnerOf_51 : decode cX4_partnerOf 51 = .ok (.sipush 1024, 3) := dq17 bw_cX4_partnerOf_2 3 rfl rfl rfl
theorem dX4_partnerOf_54 : decode cX4_partnerOf 54 = .ok (.imul, 1) := dq104 bw_cX4_partnerOf_2 6 rfl rfl
theorem dX4_partnerOf_55 : decode cX4_partnerOf 55 = .ok (.iload_n 3, 1) := dq29 bw_cX4_partnerOf_2 7 rfl rfl
theorem dX4_partnerOf_56 : decode cX4_partnerOf 56 = .ok (.iadd, 1) := dq96 bw_cX4_partnerOf_2 8 rfl rfl
theorem dX4_partnerOf_57 : decode cX4_partnerOf 57 = .ok (.invokevirtual 108, 3) := dq182 bw_cX4_partnerOf_2 9 rfl rfl rfl
theorem dX4_partnerOf_60 : decode cX4_partnerOf 60 = .ok (.if_icmp .ne 6, 3) := dq160 bw_cX4_partnerOf_2 12 rfl rfl rfl
theorem dX4_partnerOf_63 : decode cX4_partnerOf 63 = .ok (.iload 6, 2) := dq21 bw_cX4_partnerOf_2 15 rfl rfl
theorem dX4_partnerOf_65 : decode cX4_partnerOf 65 = .ok (.ireturn, 1) := dq172 bw_cX4_partnerOf_2 17 rfl rfl
theorem dX4_partnerOf_66 : decode cX4_partnerOf 66 = .ok (.iinc 6 1, 3) := dq132 bw_cX4_partnerOf_2 18 rfl rfl rfl
theorem dX4_partnerOf_69 : decode cX4_partnerOf 69 = .ok (.goto (-55), 3) := dq167 bw_cX4_partnerOf_2 21 rfl rfl rfl
theorem bw_cX4_partnerOf_3 : dq_w cX4_partnerOf 72 [2, 172] = true := by decide +kernel
theorem dX4_partnerOf_72 : decode cX4_partnerOf 72 = .ok (.iconst (-1), 1) := dq2 bw_cX4_partnerOf_3 0 rfl rfl
theorem dX4_partnerOf_73 : decode cX4_partnerOf 73 = .ok (.ireturn, 1) := dq172 bw_cX4_partnerOf_3 1 rfl rfl
theorem bw_cX4_tellPairs_0 : dq_w cX4_tellPairs 0 [25, 4, 182, 0, 27, 28, 54, 5, 29, 54, 6, 3, 54, 7, 21, 7, 43, 180, 0, 79, 162, 0, 86, 21, 5, 21, 7] = true := by decide +kernel
theorem dX4_tellPairs_0 : decode cX4_tellPairs 0 = .ok (.aload 4, 2) := dq25 bw_cX4_tellPairs_0 0 rfl rfl
theorem dX4_tellPairs_2 : decode cX4_tellPairs 2 = .ok (.invokevirtual 27, 3) := dq182 bw_cX4_tellPairs_0 2 rfl rfl rfl
theorem dX4_tellPairs_5 : decode cX4_tellPairs 5 = .ok (.iload_n 2, 1) := dq28 bw_cX4_tellPairs_0 5 rfl rfl
theorem dX4_tellPairs_6 : decode cX4_tellPairs 6 = .ok (.istore 5, 2) := dq54 bw_cX4_tellPairs_0 6 rfl rfl
theorem dX4_tellPairs_8 : decode cX4_tellPairs 8 = .ok (.iload_n 3, 1) := dq29 bw_cX4_tellPairs_0 8 rfl rfl
theorem dX4_tellPairs_9 : decode cX4_tellPairs 9 = .ok (.istore 6, 2) := dq54 bw_cX4_tellPairs_0 9 rfl rfl
theorem dX4_tellPairs_11 : decode cX4_tellPairs 11 = .ok (.iconst 0, 1) := dq3 bw_cX4_tellPairs_0 11 rfl rfl
theorem dX4_tellPairs_12 : decode cX4_tellPairs 12 = .ok (.istore 7, 2) := dq54 bw_cX4_tellPairs_0 12 rfl rfl
theorem dX4_tellPairs_14 : decode cX4_tellPairs 14 = .ok (.iload 7, 2) := dq21 bw_cX4_tellPairs_0 14 rfl rfl
theorem dX4_tellPairs_16 : decode cX4_tellPairs 16 = .ok (.aload_n 1, 1) := dq43 bw_cX4_tellPairs_0 16 rfl rfl
theorem dX4_tellPairs_17 : decode cX4_tellPairs 17 = .ok (.getfield 79, 3) := dq180 bw_cX4_tellPairs_0 17 rfl rfl rfl
theorem dX4_tellPairs_20 : decode cX4_tellPairs 20 = .ok (.if_icmp .ge 86, 3) := dq162 bw_cX4_tellPairs_0 20 rfl rfl rfl
theorem dX4_tellPairs_23 : decode cX4_tellPairs 23 = .ok (.iload 5, 2) := dq21 bw_cX4_tellPairs_0 23 rfl rfl
theorem bw_cX4_tellPairs_1 : dq_w cX4_tellPairs 24 [5, 21, 7, 122, 4, 126, 153, 0, 70, 42, 43, 21, 7, 21, 5, 21, 6, 182, 0, 126, 54, 8, 21, 5, 4, 21, 7] = true := by decide +kernel
theorem dX4_tellPairs_25 : decode cX4_tellPairs 25 = .ok (.iload 7, 2) := dq21 bw_cX4_tellPairs_1 1 rfl rfl
theorem dX4_tellPairs_27 : decode cX4_tellPairs 27 = .ok (.ishr, 1) := dq122 bw_cX4_tellPairs_1 3 rfl rfl
theorem dX4_tellPairs_28 : decode cX4_tellPairs 28 = .ok (.iconst 1, 1) := dq4 bw_cX4_tellPairs_1 4 rfl rfl
theorem dX4_tellPairs_29 : decode cX4_tellPairs 29 = .ok (.iand, 1) := dq126 bw_cX4_tellPairs_1 5 rfl rfl
theorem dX4_tellPairs_30 : decode cX4_tellPairs 30 = .ok (.ifCond .eq 70, 3) := dq153 bw_cX4_tellPairs_1 6 rfl rfl rfl
theorem dX4_tellPairs_33 : decode cX4_tellPairs 33 = .ok (.aload_n 0, 1) := dq42 bw_cX4_tellPairs_1 9 rfl rfl
theorem dX4_tellPairs_34 : decode cX4_tellPairs 34 = .ok (.aload_n 1, 1) := dq43 bw_cX4_tellPairs_1 10 rfl rfl
theorem dX4_tellPairs_35 : decode cX4_tellPairs 35 = .ok (.iload 7, 2) := dq21 bw_cX4_tellPairs_1 11 rfl rfl
theorem dX4_tellPairs_37 : decode cX4_tellPairs 37 = .ok (.iload 5, 2) := dq21 bw_cX4_tellPairs_1 13 rfl rfl
theorem dX4_tellPairs_39 : decode cX4_tellPairs 39 = .ok (.iload 6, 2) := dq21 bw_cX4_tellPairs_1 15 rfl rfl
theorem dX4_tellPairs_41 : decode cX4_tellPairs 41 = .ok (.invokevirtual 126, 3) := dq182 bw_cX4_tellPairs_1 17 rfl rfl rfl
theorem dX4_tellPairs_44 : decode cX4_tellPairs 44 = .ok (.istore 8, 2) := dq54 bw_cX4_tellPairs_1 20 rfl rfl
theorem dX4_tellPairs_46 : decode cX4_tellPairs 46 = .ok (.iload 5, 2) := dq21 bw_cX4_tellPairs_1 22 rfl rfl
theorem bw_cX4_tellPairs_2 : dq_w cX4_tellPairs 48 [4, 21, 7, 120, 2, 130, 126, 54, 5, 21, 8, 156, 0, 16, 3, 21, 6, 4, 100, 184, 0, 130, 54, 6, 167, 0, 28] = true := by decide +kernel
theorem dX4_tellPairs_48 : decode cX4_tellPairs 48 = .ok (.iconst 1, 1) := dq4 bw_cX4_tellPairs_2 0 rfl rfl
theorem dX4_tellPairs_49 : decode cX4_tellPairs 49 = .ok (.iload 7, 2) := dq21 bw_cX4_tellPairs_2 1 rfl rfl
theorem dX4_tellPairs_51 : decode cX4_tellPairs 51 = .ok (.ishl, 1) := dq120 bw_cX4_tellPairs_2 3 rfl rfl
theorem dX4_tellPairs_52 : decode cX4_tellPairs 52 = .ok (.iconst (-1), 1) := dq2 bw_cX4_tellPairs_2 4 rfl rfl
theorem dX4_tellPairs_53 : decode cX4_tellPairs 53 = .ok (.ixor, 1) := dq130 bw_cX4_tellPairs_2 5 rfl rfl
theorem dX4_tellPairs_54 : decode cX4_tellPairs 54 = .ok (.iand, 1) := dq126 bw_cX4_tellPairs_2 6 rfl rfl
theorem dX4_tellPairs_55 : decode cX4_tellPairs 55 = .ok (.istore 5, 2) := dq54 bw_cX4_tellPairs_2 7 rfl rfl
theorem dX4_tellPairs_57 : decode cX4_tellPairs 57 = .ok (.iload 8, 2) := dq21 bw_cX4_tellPairs_2 9 rfl rfl
theorem dX4_tellPairs_59 : decode cX4_tellPairs 59 = .ok (.ifCond .ge 16, 3) := dq156 bw_cX4_tellPairs_2 11 rfl rfl rfl
theorem dX4_tellPairs_62 : decode cX4_tellPairs 62 = .ok (.iconst 0, 1) := dq3 bw_cX4_tellPairs_2 14 rfl rfl
theorem dX4_tellPairs_63 : decode cX4_tellPairs 63 = .ok (.iload 6, 2) := dq21 bw_cX4_tellPairs_2 15 rfl rfl
theorem dX4_tellPairs_65 : decode cX4_tellPairs 65 = .ok (.iconst 1, 1) := dq4 bw_cX4_tellPairs_2 17 rfl rfl
theorem dX4_tellPairs_66 : decode cX4_tellPairs 66 = .ok (.isub, 1) := dq100 bw_cX4_tellPairs_2 18 rfl rfl
theorem dX4_tellPairs_67 : decode cX4_tellPairs 67 = .ok (.invokestatic 130, 3) := dq184 bw_cX4_tellPairs_2 19 rfl rfl rfl
theorem dX4_tellPairs_70 : decode cX4_tellPairs 70 = .ok (.istore 6, 2) := dq54 bw_cX4_tellPairs_2 22 rfl rfl
theorem bw_cX4_tellPairs_3 : dq_w cX4_tellPairs 72 [167, 0, 28, 21, 5, 4, 21, 8, 120, 2, 130, 126, 54, 5, 25, 4, 21, 7, 182, 0, 46, 25, 4, 21, 8, 182, 0] = true := by decide +kernel
theorem dX4_tellPairs_72 : decode cX4_tellPairs 72 = .ok (.goto 28, 3) := dq167 bw_cX4_tellPairs_3 0 rfl rfl rfl
theorem dX4_tellPairs_75 : decode cX4_tellPairs 75 = .ok (.iload 5, 2) := dq21 bw_cX4_tellPairs_3 3 rfl rfl
theorem dX4_tellPairs_77 : decode cX4_tellPairs 77 = .ok (.iconst 1, 1) := dq4 bw_cX4_tellPairs_3 5 rfl rfl
theorem dX4_tellPairs_78 : decode cX4_tellPairs 78 = .ok (.iload 8, 2) := dq21 bw_cX4_tellPairs_3 6 rfl rfl
theorem dX4_tellPairs_80 : decode cX4_tellPairs 80 = .ok (.ishl, 1) := dq120 bw_cX4_tellPairs_3 8 rfl rfl
theorem dX4_tellPairs_81 : decode cX4_tellPairs 81 = .ok (.iconst (-1), 1) := dq2 bw_cX4_tellPairs_3 9 rfl rfl
theorem dX4_tellPairs_82 : decode cX4_tellPairs 82 = .ok (.ixor, 1) := dq130 bw_cX4_tellPairs_3 10 rfl rfl
theorem dX4_tellPairs_83 : decode cX4_tellPairs 83 = .ok (.iand, 1) := dq126 bw_cX4_tellPairs_3 11 rfl rfl
theorem dX4_tellPairs_84 : decode cX4_tellPairs 84 = .ok (.istore 5, 2) := dq54 bw_cX4_tellPairs_3 12 rfl rfl
theorem dX4_tellPairs_86 : decode cX4_tellPairs 86 = .ok (.aload 4, 2) := dq25 bw_cX4_tellPairs_3 14 rfl rfl
theorem dX4_tellPairs_88 : decode cX4_tellPairs 88 = .ok (.iload 7, 2) := dq21 bw_cX4_tellPairs_3 16 rfl rfl
theorem dX4_tellPairs_90 : decode cX4_tellPairs 90 = .ok (.invokevirtual 46, 3) := dq182 bw_cX4_tellPairs_3 18 rfl rfl rfl
theorem dX4_tellPairs_93 : decode cX4_tellPairs 93 = .ok (.aload 4, 2) := dq25 bw_cX4_tellPairs_3 21 rfl rfl
theorem dX4_tellPairs_95 : decode cX4_tellPairs 95 = .ok (.iload 8, 2) := dq21 bw_cX4_tellPairs_3 23 rfl rfl
theorem bw_cX4_tellPairs_4 : dq_w cX4_tellPairs 96 [8, 182, 0, 46, 132, 7, 1, 167, 255, 167, 177] = true := by decide +kernel
theorem dX4_tellPairs_97 : decode cX4_tellPairs 97 = .ok (.invokevirtual 46, 3) := dq182 bw_cX4_tellPairs_4 1 rfl rfl rfl
theorem dX4_tellPairs_100 : decode cX4_tellPairs 100 = .ok (.iinc 7 1, 3) := dq132 bw_cX4_tellPairs_4 4 rfl rfl rfl
theorem dX4_tellPairs_103 : decode cX4_tellPairs 103 = .ok (.goto (-89), 3) := dq167 bw_cX4_tellPairs_4 7 rfl rfl rfl
theorem dX4_tellPairs_106 : decode cX4_tellPairs 106 = .ok (.return_, 1) := dq177 bw_cX4_tellPairs_4 10 rfl rfl
theorem bw_cX3_put_0 : dq_w cX3_put 0 [27, 155, 0, 57, 27, 42, 180, 0, 15, 162, 0, 49, 27, 6, 126, 7, 120, 62, 42, 180, 0, 21, 27, 5, 122, 47, 20] = true := by decide +kernel
theorem dX3_put_0 : decode cX3_put 0 = .ok (.iload_n 1, 1) := dq27 bw_cX3_put_0 0 rfl rfl
theorem dX3_put_1 : decode cX3_put 1 = .ok (.ifCond .lt 57, 3) := dq155 bw_cX3_put_0 1 rfl rfl rfl
theorem dX3_put_4 : decode cX3_put 4 = .ok (.iload_n 1, 1) := dq27 bw_cX3_put_0 4 rfl rfl
theorem dX3_put_5 : decode cX3_put 5 = .ok (.aload_n 0, 1) := dq42 bw_cX3_put_0 5 rfl rfl
theorem dX3_put_6 : decode cX3_put 6 = .ok (.getfield 15, 3) := dq180 bw_cX3_put_0 6 rfl rfl rfl
theorem dX3_put_9 : decode cX3_put 9 = .ok (.if_icmp .ge 49, 3) := dq162 bw_cX3_put_0 9 rfl rfl rfl
theorem dX3_put_12 : decode cX3_put 12 = .ok (.iload_n 1, 1) := dq27 bw_cX3_put_0 12 rfl rfl
theorem dX3_put_13 : decode cX3_put 13 = .ok (.iconst 3, 1) := dq6 bw_cX3_put_0 13 rfl rfl
theorem dX3_put_14 : decode cX3_put 14 = .ok (.iand, 1) := dq126 bw_cX3_put_0 14 rfl rfl
theorem dX3_put_15 : decode cX3_put 15 = .ok (.iconst 4, 1) := dq7 bw_cX3_put_0 15 rfl rfl
theorem dX3_put_16 : decode cX3_put 16 = .ok (.ishl, 1) := dq120 bw_cX3_put_0 16 rfl rfl
theorem dX3_put_17 : decode cX3_put 17 = .ok (.istore_n 3, 1) := dq62 bw_cX3_put_0 17 rfl rfl
theorem dX3_put_18 : decode cX3_put 18 = .ok (.aload_n 0, 1) := dq42 bw_cX3_put_0 18 rfl rfl
theorem dX3_put_19 : decode cX3_put 19 = .ok (.getfield 21, 3) := dq180 bw_cX3_put_0 19 rfl rfl rfl
theorem dX3_put_22 : decode cX3_put 22 = .ok (.iload_n 1, 1) := dq27 bw_cX3_put_0 22 rfl rfl
theorem dX3_put_23 : decode cX3_put 23 = .ok (.iconst 2, 1) := dq5 bw_cX3_put_0 23 rfl rfl
theorem bw_cX3_put_1 : dq_w cX3_put 24 [122, 47, 20, 0, 28, 29, 121, 20, 0, 25, 131, 127, 55, 4, 42, 180, 0, 21, 27, 5, 122, 22, 4, 28, 18, 27, 184] = true := by decide +kernel
theorem dX3_put_24 : decode cX3_put 24 = .ok (.ishr, 1) := dq122 bw_cX3_put_1 0 rfl rfl
theorem dX3_put_25 : decode cX3_put 25 = .ok (.laload, 1) := dq47 bw_cX3_put_1 1 rfl rfl
theorem dX3_put_26 : decode cX3_put 26 = .ok (.ldc2_w 28, 3) := dq20 bw_cX3_put_1 2 rfl rfl rfl
theorem dX3_put_29 : decode cX3_put 29 = .ok (.iload_n 3, 1) := dq29 bw_cX3_put_1 5 rfl rfl
theorem dX3_put_30 : decode cX3_put 30 = .ok (.lshl, 1) := dq121 bw_cX3_put_1 6 rfl rfl
theorem dX3_put_31 : decode cX3_put 31 = .ok (.ldc2_w 25, 3) := dq20 bw_cX3_put_1 7 rfl rfl rfl
theorem dX3_put_34 : decode cX3_put 34 = .ok (.lxor, 1) := dq131 bw_cX3_put_1 10 rfl rfl
theorem dX3_put_35 : decode cX3_put 35 = .ok (.land, 1) := dq127 bw_cX3_put_1 11 rfl rfl
theorem dX3_put_36 : decode cX3_put 36 = .ok (.lstore 4, 2) := dq55 bw_cX3_put_1 12 rfl rfl
theorem dX3_put_38 : decode cX3_put 38 = .ok (.aload_n 0, 1) := dq42 bw_cX3_put_1 14 rfl rfl
theorem dX3_put_39 : decode cX3_put 39 = .ok (.getfield 21, 3) := dq180 bw_cX3_put_1 15 rfl rfl rfl
theorem dX3_put_42 : decode cX3_put 42 = .ok (.iload_n 1, 1) := dq27 bw_cX3_put_1 18 rfl rfl
theorem dX3_put_43 : decode cX3_put 43 = .ok (.iconst 2, 1) := dq5 bw_cX3_put_1 19 rfl rfl
theorem dX3_put_44 : decode cX3_put 44 = .ok (.ishr, 1) := dq122 bw_cX3_put_1 20 rfl rfl
theorem dX3_put_45 : decode cX3_put 45 = .ok (.lload 4, 2) := dq22 bw_cX3_put_1 21 rfl rfl
theorem dX3_put_47 : decode cX3_put 47 = .ok (.iload_n 2, 1) := dq28 bw_cX3_put_1 23 rfl rfl
theorem bw_cX3_put_2 : dq_w cX3_put 48 [18, 27, 184, 0, 30, 133, 29, 121, 129, 80, 177] = true := by decide +kernel
theorem dX3_put_48 : decode cX3_put 48 = .ok (.ldc 27, 2) := dq18 bw_cX3_put_2 0 rfl rfl
theorem dX3_put_50 : decode cX3_put 50 = .ok (.invokestatic 30, 3) := dq184 bw_cX3_put_2 2 rfl rfl rfl
theorem dX3_put_53 : decode cX3_put 53 = .ok (.i2l, 1) := dq133 bw_cX3_put_2 5 rfl rfl
theorem dX3_put_54 : decode cX3_put 54 = .ok (.iload_n 3, 1) := dq29 bw_cX3_put_2 6 rfl rfl
theorem dX3_put_55 : decode cX3_put 55 = .ok (.lshl, 1) := dq121 bw_cX3_put_2 7 rfl rfl
theorem dX3_put_56 : decode cX3_put 56 = .ok (.lor, 1) := dq129 bw_cX3_put_2 8 rfl rfl
theorem dX3_put_57 : decode cX3_put 57 = .ok (.lastore, 1) := dq80 bw_cX3_put_2 9 rfl rfl
theorem dX3_put_58 : decode cX3_put 58 = .ok (.return_, 1) := dq177 bw_cX3_put_2 10 rfl rfl
theorem bw_cX4_lowestOf_0 : dq_w cX4_lowestOf 0 [3, 60, 27, 16, 10, 162, 0, 19, 26, 27, 122, 4, 126, 153, 0, 5, 27, 172, 132, 1, 1, 167, 255, 237, 3, 172] = true := by decide +kernel
theorem dX4_lowestOf_0 : decode cX4_lowestOf 0 = .ok (.iconst 0, 1) := dq3 bw_cX4_lowestOf_0 0 rfl rfl
theorem dX4_lowestOf_1 : decode cX4_lowestOf 1 = .ok (.istore_n 1, 1) := dq60 bw_cX4_lowestOf_0 1 rfl rfl
theorem dX4_lowestOf_2 : decode cX4_lowestOf 2 = .ok (.iload_n 1, 1) := dq27 bw_cX4_lowestOf_0 2 rfl rfl
theorem dX4_lowestOf_3 : decode cX4_lowestOf 3 = .ok (.bipush 10, 2) := dq16 bw_cX4_lowestOf_0 3 rfl rfl rfl
theorem dX4_lowestOf_5 : decode cX4_lowestOf 5 = .ok (.if_icmp .ge 19, 3) := dq162 bw_cX4_lowestOf_0 5 rfl rfl rfl
theorem dX4_lowestOf_8 : decode cX4_lowestOf 8 = .ok (.iload_n 0, 1) := dq26 bw_cX4_lowestOf_0 8 rfl rfl
theorem dX4_lowestOf_9 : decode cX4_lowestOf 9 = .ok (.iload_n 1, 1) := dq27 bw_cX4_lowestOf_0 9 rfl rfl
theorem dX4_lowestOf_10 : decode cX4_lowestOf 10 = .ok (.ishr, 1) := dq122 bw_cX4_lowestOf_0 10 rfl rfl
theorem dX4_lowestOf_11 : decode cX4_lowestOf 11 = .ok (.iconst 1, 1) := dq4 bw_cX4_lowestOf_0 11 rfl rfl
theorem dX4_lowestOf_12 : decode cX4_lowestOf 12 = .ok (.iand, 1) := dq126 bw_cX4_lowestOf_0 12 rfl rfl
theorem dX4_lowestOf_13 : decode cX4_lowestOf 13 = .ok (.ifCond .eq 5, 3) := dq153 bw_cX4_lowestOf_0 13 rfl rfl rfl
theorem dX4_lowestOf_16 : decode cX4_lowestOf 16 = .ok (.iload_n 1, 1) := dq27 bw_cX4_lowestOf_0 16 rfl rfl
theorem dX4_lowestOf_17 : decode cX4_lowestOf 17 = .ok (.ireturn, 1) := dq172 bw_cX4_lowestOf_0 17 rfl rfl
theorem dX4_lowestOf_18 : decode cX4_lowestOf 18 = .ok (.iinc 1 1, 3) := dq132 bw_cX4_lowestOf_0 18 rfl rfl rfl
theorem dX4_lowestOf_21 : decode cX4_lowestOf 21 = .ok (.goto (-19), 3) := dq167 bw_cX4_lowestOf_0 21 rfl rfl rfl
theorem bw_cX4_lowestOf_1 : dq_w cX4_lowestOf 24 [3, 172] = true := by decide +kernel
theorem dX4_lowestOf_24 : decode cX4_lowestOf 24 = .ok (.iconst 0, 1) := dq3 bw_cX4_lowestOf_1 0 rfl rfl
theorem dX4_lowestOf_25 : decode cX4_lowestOf 25 = .ok (.ireturn, 1) := dq172 bw_cX4_lowestOf_1 1 rfl rfl
theorem bw_cX4_costOf_0 : dq_w cX4_costOf 0 [28, 154, 0, 14, 29, 154, 0, 7, 3, 167, 0, 5, 18, 70, 172, 28, 184, 0, 111, 54, 4, 28, 4, 21, 4, 120, 2] = true := by decide +kernel
theorem dX4_costOf_0 : decode cX4_costOf 0 = .ok (.iload_n 2, 1) := dq28 bw_cX4_costOf_0 0 rfl rfl
theorem dX4_costOf_1 : decode cX4_costOf 1 = .ok (.ifCond .ne 14, 3) := dq154 bw_cX4_costOf_0 1 rfl rfl rfl
theorem dX4_costOf_4 : decode cX4_costOf 4 = .ok (.iload_n 3, 1) := dq29 bw_cX4_costOf_0 4 rfl rfl
theorem dX4_costOf_5 : decode cX4_costOf 5 = .ok (.ifCond .ne 7, 3) := dq154 bw_cX4_costOf_0 5 rfl rfl rfl
theorem dX4_costOf_8 : decode cX4_costOf 8 = .ok (.iconst 0, 1) := dq3 bw_cX4_costOf_0 8 rfl rfl
theorem dX4_costOf_9 : decode cX4_costOf 9 = .ok (.goto 5, 3) := dq167 bw_cX4_costOf_0 9 rfl rfl rfl
theorem dX4_costOf_12 : decode cX4_costOf 12 = .ok (.ldc 70, 2) := dq18 bw_cX4_costOf_0 12 rfl rfl
theorem dX4_costOf_14 : decode cX4_costOf 14 = .ok (.ireturn, 1) := dq172 bw_cX4_costOf_0 14 rfl rfl
theorem dX4_costOf_15 : decode cX4_costOf 15 = .ok (.iload_n 2, 1) := dq28 bw_cX4_costOf_0 15 rfl rfl
theorem dX4_costOf_16 : decode cX4_costOf 16 = .ok (.invokestatic 111, 3) := dq184 bw_cX4_costOf_0 16 rfl rfl rfl
theorem dX4_costOf_19 : decode cX4_costOf 19 = .ok (.istore 4, 2) := dq54 bw_cX4_costOf_0 19 rfl rfl
theorem dX4_costOf_21 : decode cX4_costOf 21 = .ok (.iload_n 2, 1) := dq28 bw_cX4_costOf_0 21 rfl rfl
theorem dX4_costOf_22 : decode cX4_costOf 22 = .ok (.iconst 1, 1) := dq4 bw_cX4_costOf_0 22 rfl rfl
theorem dX4_costOf_23 : decode cX4_costOf 23 = .ok (.iload 4, 2) := dq21 bw_cX4_costOf_0 23 rfl rfl
theorem bw_cX4_costOf_1 : dq_w cX4_costOf 24 [4, 120, 2, 130, 126, 54, 5, 29, 154, 0, 8, 18, 70, 167, 0, 20, 42, 180, 0, 23, 29, 4, 100, 17, 4, 0, 104] = true := by decide +kernel
theorem dX4_costOf_25 : decode cX4_costOf 25 = .ok (.ishl, 1) := dq120 bw_cX4_costOf_1 1 rfl rfl
theorem dX4_costOf_26 : decode cX4_costOf 26 = .ok (.iconst (-1), 1) := dq2 bw_cX4_costOf_1 2 rfl rfl
theorem dX4_costOf_27 : decode cX4_costOf 27 = .ok (.ixor, 1) := dq130 bw_cX4_costOf_1 3 rfl rfl
theorem dX4_costOf_28 : decode cX4_costOf 28 = .ok (.iand, 1) := dq126 bw_cX4_costOf_1 4 rfl rfl
theorem dX4_costOf_29 : decode cX4_costOf 29 = .ok (.istore 5, 2) := dq54 bw_cX4_costOf_1 5 rfl rfl
theorem dX4_costOf_31 : decode cX4_costOf 31 = .ok (.iload_n 3, 1) := dq29 bw_cX4_costOf_1 7 rfl rfl
theorem dX4_costOf_32 : decode cX4_costOf 32 = .ok (.ifCond .ne 8, 3) := dq154 bw_cX4_costOf_1 8 rfl rfl rfl
theorem dX4_costOf_35 : decode cX4_costOf 35 = .ok (.ldc 70, 2) := dq18 bw_cX4_costOf_1 11 rfl rfl
theorem dX4_costOf_37 : decode cX4_costOf 37 = .ok (.goto 20, 3) := dq167 bw_cX4_costOf_1 13 rfl rfl rfl
theorem dX4_costOf_40 : decode cX4_costOf 40 = .ok (.aload_n 0, 1) := dq42 bw_cX4_costOf_1 16 rfl rfl
theorem dX4_costOf_41 : decode cX4_costOf 41 = .ok (.getfield 23, 3) := dq180 bw_cX4_costOf_1 17 rfl rfl rfl
theorem dX4_costOf_44 : decode cX4_costOf 44 = .ok (.iload_n 3, 1) := dq29 bw_cX4_costOf_1 20 rfl rfl
theorem dX4_costOf_45 : decode cX4_costOf 45 = .ok (.iconst 1, 1) := dq4 bw_cX4_costOf_1 21 rfl rfl
theorem dX4_costOf_46 : decode cX4_costOf 46 = .ok (.isub, 1) := dq100 bw_cX4_costOf_1 22 rfl rfl
theorem dX4_costOf_47 : decode cX4_costOf 47 = .ok (.sipush 1024, 3) := dq17 bw_cX4_costOf_1 23 rfl rfl rfl
theorem bw_cX4_costOf_2 : dq_w cX4_costOf 48 [4, 0, 104, 21, 5, 96, 182, 0, 108, 54, 6, 21, 4, 4, 96, 54, 7, 21, 7, 43, 180, 0, 79, 162, 0, 38, 21] = true := by decide +kernel
theorem dX4_costOf_50 : decode cX4_costOf 50 = .ok (.imul, 1) := dq104 bw_cX4_costOf_2 2 rfl rfl
theorem dX4_costOf_51 : decode cX4_costOf 51 = .ok (.iload 5, 2) := dq21 bw_cX4_costOf_2 3 rfl rfl
theorem dX4_costOf_53 : decode cX4_costOf 53 = .ok (.iadd, 1) := dq96 bw_cX4_costOf_2 5 rfl rfl
theorem dX4_costOf_54 : decode cX4_costOf 54 = .ok (.invokevirtual 108, 3) := dq182 bw_cX4_costOf_2 6 rfl rfl rfl
theorem dX4_costOf_57 : decode cX4_costOf 57 = .ok (.istore 6, 2) := dq54 bw_cX4_costOf_2 9 rfl rfl
theorem dX4_costOf_59 : decode cX4_costOf 59 = .ok (.iload 4, 2) := dq21 bw_cX4_costOf_2 11 rfl rfl
theorem dX4_costOf_61 : decode cX4_costOf 61 = .ok (.iconst 1, 1) := dq4 bw_cX4_costOf_2 13 rfl rfl
theorem dX4_costOf_62 : decode cX4_costOf 62 = .ok (.iadd, 1) := dq96 bw_cX4_costOf_2 14 rfl rfl
theorem dX4_costOf_63 : decode cX4_costOf 63 = .ok (.istore 7, 2) := dq54 bw_cX4_costOf_2 15 rfl rfl
theorem dX4_costOf_65 : decode cX4_costOf 65 = .ok (.iload 7, 2) := dq21 bw_cX4_costOf_2 17 rfl rfl
theorem dX4_costOf_67 : decode cX4_costOf 67 = .ok (.aload_n 1, 1) := dq43 bw_cX4_costOf_2 19 rfl rfl
theorem dX4_costOf_68 : decode cX4_costOf 68 = .ok (.getfield 79, 3) := dq180 bw_cX4_costOf_2 20 rfl rfl rfl
theorem dX4_costOf_71 : decode cX4_costOf 71 = .ok (.if_icmp .ge 38, 3) := dq162 bw_cX4_costOf_2 23 rfl rfl rfl
theorem bw_cX4_costOf_3 : dq_w cX4_costOf 72 [0, 38, 21, 5, 21, 7, 122, 4, 126, 153, 0, 22, 21, 6, 42, 43, 21, 4, 21, 7, 21, 5, 29, 182, 0, 114, 184] = true := by decide +kernel
theorem dX4_costOf_74 : decode cX4_costOf 74 = .ok (.iload 5, 2) := dq21 bw_cX4_costOf_3 2 rfl rfl
theorem dX4_costOf_76 : decode cX4_costOf 76 = .ok (.iload 7, 2) := dq21 bw_cX4_costOf_3 4 rfl rfl
theorem dX4_costOf_78 : decode cX4_costOf 78 = .ok (.ishr, 1) := dq122 bw_cX4_costOf_3 6 rfl rfl
theorem dX4_costOf_79 : decode cX4_costOf 79 = .ok (.iconst 1, 1) := dq4 bw_cX4_costOf_3 7 rfl rfl
theorem dX4_costOf_80 : decode cX4_costOf 80 = .ok (.iand, 1) := dq126 bw_cX4_costOf_3 8 rfl rfl
theorem dX4_costOf_81 : decode cX4_costOf 81 = .ok (.ifCond .eq 22, 3) := dq153 bw_cX4_costOf_3 9 rfl rfl rfl
theorem dX4_costOf_84 : decode cX4_costOf 84 = .ok (.iload 6, 2) := dq21 bw_cX4_costOf_3 12 rfl rfl
theorem dX4_costOf_86 : decode cX4_costOf 86 = .ok (.aload_n 0, 1) := dq42 bw_cX4_costOf_3 14 rfl rfl
theorem dX4_costOf_87 : decode cX4_costOf 87 = .ok (.aload_n 1, 1) := dq43 bw_cX4_costOf_3 15 rfl rfl
theorem dX4_costOf_88 : decode cX4_costOf 88 = .ok (.iload 4, 2) := dq21 bw_cX4_costOf_3 16 rfl rfl
theorem dX4_costOf_90 : decode cX4_costOf 90 = .ok (.iload 7, 2) := dq21 bw_cX4_costOf_3 18 rfl rfl
theorem dX4_costOf_92 : decode cX4_costOf 92 = .ok (.iload 5, 2) := dq21 bw_cX4_costOf_3 20 rfl rfl
theorem dX4_costOf_94 : decode cX4_costOf 94 = .ok (.iload_n 3, 1) := dq29 bw_cX4_costOf_3 22 rfl rfl
theorem dX4_costOf_95 : decode cX4_costOf 95 = .ok (.invokevirtual 114, 3) := dq182 bw_cX4_costOf_3 23 rfl rfl rfl
theorem bw_cX4_costOf_4 : dq_w cX4_costOf 96 [0, 114, 184, 0, 118, 54, 6, 132, 7, 1, 167, 255, 215, 21, 6, 172] = true := by decide +kernel
theorem dX4_costOf_98 : decode cX4_costOf 98 = .ok (.invokestatic 118, 3) := dq184 bw_cX4_costOf_4 2 rfl rfl rfl
theorem dX4_costOf_101 : decode cX4_costOf 101 = .ok (.istore 6, 2) := dq54 bw_cX4_costOf_4 5 rfl rfl
theorem dX4_costOf_103 : decode cX4_costOf 103 = .ok (.iinc 7 1, 3) := dq132 bw_cX4_costOf_4 7 rfl rfl rfl
theorem dX4_costOf_106 : decode cX4_costOf 106 = .ok (.goto (-41), 3) := dq167 bw_cX4_costOf_4 10 rfl rfl rfl
theorem dX4_costOf_109 : decode cX4_costOf 109 = .ok (.iload 6, 2) := dq21 bw_cX4_costOf_4 13 rfl rfl
theorem dX4_costOf_111 : decode cX4_costOf 111 = .ok (.ireturn, 1) := dq172 bw_cX4_costOf_4 15 rfl rfl
theorem bw_cX4_leastGrass_0 : dq_w cX4_leastGrass 0 [43, 43, 182, 0, 32, 182, 0, 94, 54, 4, 3, 54, 5, 21, 5, 28, 163, 0, 69, 3, 54, 6, 21, 6, 4, 43, 180] = true := by decide +kernel
theorem dX4_leastGrass_0 : decode cX4_leastGrass 0 = .ok (.aload_n 1, 1) := dq43 bw_cX4_leastGrass_0 0 rfl rfl
theorem dX4_leastGrass_1 : decode cX4_leastGrass 1 = .ok (.aload_n 1, 1) := dq43 bw_cX4_leastGrass_0 1 rfl rfl
theorem dX4_leastGrass_2 : decode cX4_leastGrass 2 = .ok (.invokevirtual 32, 3) := dq182 bw_cX4_leastGrass_0 2 rfl rfl rfl
theorem dX4_leastGrass_5 : decode cX4_leastGrass 5 = .ok (.invokevirtual 94, 3) := dq182 bw_cX4_leastGrass_0 5 rfl rfl rfl
theorem dX4_leastGrass_8 : decode cX4_leastGrass 8 = .ok (.istore 4, 2) := dq54 bw_cX4_leastGrass_0 8 rfl rfl
theorem dX4_leastGrass_10 : decode cX4_leastGrass 10 = .ok (.iconst 0, 1) := dq3 bw_cX4_leastGrass_0 10 rfl rfl
theorem dX4_leastGrass_11 : decode cX4_leastGrass 11 = .ok (.istore 5, 2) := dq54 bw_cX4_leastGrass_0 11 rfl rfl
theorem dX4_leastGrass_13 : decode cX4_leastGrass 13 = .ok (.iload 5, 2) := dq21 bw_cX4_leastGrass_0 13 rfl rfl
theorem dX4_leastGrass_15 : decode cX4_leastGrass 15 = .ok (.iload_n 2, 1) := dq28 bw_cX4_leastGrass_0 15 rfl rfl
theorem dX4_leastGrass_16 : decode cX4_leastGrass 16 = .ok (.if_icmp .gt 69, 3) := dq163 bw_cX4_leastGrass_0 16 rfl rfl rfl
theorem dX4_leastGrass_19 : decode cX4_leastGrass 19 = .ok (.iconst 0, 1) := dq3 bw_cX4_leastGrass_0 19 rfl rfl
theorem dX4_leastGrass_20 : decode cX4_leastGrass 20 = .ok (.istore 6, 2) := dq54 bw_cX4_leastGrass_0 20 rfl rfl
theorem dX4_leastGrass_22 : decode cX4_leastGrass 22 = .ok (.iload 6, 2) := dq21 bw_cX4_leastGrass_0 22 rfl rfl
theorem bw_cX4_leastGrass_1 : dq_w cX4_leastGrass 24 [4, 43, 180, 0, 79, 120, 162, 0, 49, 42, 180, 0, 23, 21, 5, 17, 4, 0, 104, 21, 6, 96, 21, 6, 21, 4, 2] = true := by decide +kernel
theorem dX4_leastGrass_24 : decode cX4_leastGrass 24 = .ok (.iconst 1, 1) := dq4 bw_cX4_leastGrass_1 0 rfl rfl
theorem dX4_leastGrass_25 : decode cX4_leastGrass 25 = .ok (.aload_n 1, 1) := dq43 bw_cX4_leastGrass_1 1 rfl rfl
theorem dX4_leastGrass_26 : decode cX4_leastGrass 26 = .ok (.getfield 79, 3) := dq180 bw_cX4_leastGrass_1 2 rfl rfl rfl
theorem dX4_leastGrass_29 : decode cX4_leastGrass 29 = .ok (.ishl, 1) := dq120 bw_cX4_leastGrass_1 5 rfl rfl
theorem dX4_leastGrass_30 : decode cX4_leastGrass 30 = .ok (.if_icmp .ge 49, 3) := dq162 bw_cX4_leastGrass_1 6 rfl rfl rfl
theorem dX4_leastGrass_33 : decode cX4_leastGrass 33 = .ok (.aload_n 0, 1) := dq42 bw_cX4_leastGrass_1 9 rfl rfl
theorem dX4_leastGrass_34 : decode cX4_leastGrass 34 = .ok (.getfield 23, 3) := dq180 bw_cX4_leastGrass_1 10 rfl rfl rfl
theorem dX4_leastGrass_37 : decode cX4_leastGrass 37 = .ok (.iload 5, 2) := dq21 bw_cX4_leastGrass_1 13 rfl rfl
theorem dX4_leastGrass_39 : decode cX4_leastGrass 39 = .ok (.sipush 1024, 3) := dq17 bw_cX4_leastGrass_1 15 rfl rfl rfl
theorem dX4_leastGrass_42 : decode cX4_leastGrass 42 = .ok (.imul, 1) := dq104 bw_cX4_leastGrass_1 18 rfl rfl
theorem dX4_leastGrass_43 : decode cX4_leastGrass 43 = .ok (.iload 6, 2) := dq21 bw_cX4_leastGrass_1 19 rfl rfl
theorem dX4_leastGrass_45 : decode cX4_leastGrass 45 = .ok (.iadd, 1) := dq96 bw_cX4_leastGrass_1 21 rfl rfl
theorem dX4_leastGrass_46 : decode cX4_leastGrass 46 = .ok (.iload 6, 2) := dq21 bw_cX4_leastGrass_1 22 rfl rfl
theorem bw_cX4_leastGrass_2 : dq_w cX4_leastGrass 48 [21, 4, 2, 130, 126, 154, 0, 15, 42, 43, 21, 6, 21, 5, 182, 0, 97, 167, 0, 5, 18, 70, 182, 0, 100, 132, 6] = true := by decide +kernel
theorem dX4_leastGrass_48 : decode cX4_leastGrass 48 = .ok (.iload 4, 2) := dq21 bw_cX4_leastGrass_2 0 rfl rfl
theorem dX4_leastGrass_50 : decode cX4_leastGrass 50 = .ok (.iconst (-1), 1) := dq2 bw_cX4_leastGrass_2 2 rfl rfl
theorem dX4_leastGrass_51 : decode cX4_leastGrass 51 = .ok (.ixor, 1) := dq130 bw_cX4_leastGrass_2 3 rfl rfl
theorem dX4_leastGrass_52 : decode cX4_leastGrass 52 = .ok (.iand, 1) := dq126 bw_cX4_leastGrass_2 4 rfl rfl
theorem dX4_leastGrass_53 : decode cX4_leastGrass 53 = .ok (.ifCond .ne 15, 3) := dq154 bw_cX4_leastGrass_2 5 rfl rfl rfl
theorem dX4_leastGrass_56 : decode cX4_leastGrass 56 = .ok (.aload_n 0, 1) := dq42 bw_cX4_leastGrass_2 8 rfl rfl
theorem dX4_leastGrass_57 : decode cX4_leastGrass 57 = .ok (.aload_n 1, 1) := dq43 bw_cX4_leastGrass_2 9 rfl rfl
theorem dX4_leastGrass_58 : decode cX4_leastGrass 58 = .ok (.iload 6, 2) := dq21 bw_cX4_leastGrass_2 10 rfl rfl
theorem dX4_leastGrass_60 : decode cX4_leastGrass 60 = .ok (.iload 5, 2) := dq21 bw_cX4_leastGrass_2 12 rfl rfl
theorem dX4_leastGrass_62 : decode cX4_leastGrass 62 = .ok (.invokevirtual 97, 3) := dq182 bw_cX4_leastGrass_2 14 rfl rfl rfl
theorem dX4_leastGrass_65 : decode cX4_leastGrass 65 = .ok (.goto 5, 3) := dq167 bw_cX4_leastGrass_2 17 rfl rfl rfl
theorem dX4_leastGrass_68 : decode cX4_leastGrass 68 = .ok (.ldc 70, 2) := dq18 bw_cX4_leastGrass_2 20 rfl rfl
theorem dX4_leastGrass_70 : decode cX4_leastGrass 70 = .ok (.invokevirtual 100, 3) := dq182 bw_cX4_leastGrass_2 22 rfl rfl rfl
theorem bw_cX4_leastGrass_3 : dq_w cX4_leastGrass 72 [100, 132, 6, 1, 167, 255, 202, 132, 5, 1, 167, 255, 187, 42, 43, 21, 4, 28, 45, 182, 0, 104, 42, 180, 0, 23, 28] = true := by decide +kernel
theorem dX4_leastGrass_73 : decode cX4_leastGrass 73 = .ok (.iinc 6 1, 3) := dq132 bw_cX4_leastGrass_3 1 rfl rfl rfl
theorem dX4_leastGrass_76 : decode cX4_leastGrass 76 = .ok (.goto (-54), 3) := dq167 bw_cX4_leastGrass_3 4 rfl rfl rfl
theorem dX4_leastGrass_79 : decode cX4_leastGrass 79 = .ok (.iinc 5 1, 3) := dq132 bw_cX4_leastGrass_3 7 rfl rfl rfl
theorem dX4_leastGrass_82 : decode cX4_leastGrass 82 = .ok (.goto (-69), 3) := dq167 bw_cX4_leastGrass_3 10 rfl rfl rfl
theorem dX4_leastGrass_85 : decode cX4_leastGrass 85 = .ok (.aload_n 0, 1) := dq42 bw_cX4_leastGrass_3 13 rfl rfl
theorem dX4_leastGrass_86 : decode cX4_leastGrass 86 = .ok (.aload_n 1, 1) := dq43 bw_cX4_leastGrass_3 14 rfl rfl
theorem dX4_leastGrass_87 : decode cX4_leastGrass 87 = .ok (.iload 4, 2) := dq21 bw_cX4_leastGrass_3 15 rfl rfl
theorem dX4_leastGrass_89 : decode cX4_leastGrass 89 = .ok (.iload_n 2, 1) := dq28 bw_cX4_leastGrass_3 17 rfl rfl
theorem dX4_leastGrass_90 : decode cX4_leastGrass 90 = .ok (.aload_n 3, 1) := dq45 bw_cX4_leastGrass_3 18 rfl rfl
theorem dX4_leastGrass_91 : decode cX4_leastGrass 91 = .ok (.invokevirtual 104, 3) := dq182 bw_cX4_leastGrass_3 19 rfl rfl rfl
theorem dX4_leastGrass_94 : decode cX4_leastGrass 94 = .ok (.aload_n 0, 1) := dq42 bw_cX4_leastGrass_3 22 rfl rfl
theorem dX4_leastGrass_95 : decode cX4_leastGrass 95 = .ok (.getfield 23, 3) := dq180 bw_cX4_leastGrass_3 23 rfl rfl rfl
theorem bw_cX4_leastGrass_4 : dq_w cX4_leastGrass 96 [0, 23, 28, 17, 4, 0, 104, 21, 4, 96, 182, 0, 108, 172] = true := by decide +kernel
theorem dX4_leastGrass_98 : decode cX4_leastGrass 98 = .ok (.iload_n 2, 1) := dq28 bw_cX4_leastGrass_4 2 rfl rfl
theorem dX4_leastGrass_99 : decode cX4_leastGrass 99 = .ok (.sipush 1024, 3) := dq17 bw_cX4_leastGrass_4 3 rfl rfl rfl
theorem dX4_leastGrass_102 : decode cX4_leastGrass 102 = .ok (.imul, 1) := dq104 bw_cX4_leastGrass_4 6 rfl rfl
theorem dX4_leastGrass_103 : decode cX4_leastGrass 103 = .ok (.iload 4, 2) := dq21 bw_cX4_leastGrass_4 7 rfl rfl
theorem dX4_leastGrass_105 : decode cX4_leastGrass 105 = .ok (.iadd, 1) := dq96 bw_cX4_leastGrass_4 9 rfl rfl
theorem dX4_leastGrass_106 : decode cX4_leastGrass 106 = .ok (.invokevirtual 108, 3) := dq182 bw_cX4_leastGrass_4 10 rfl rfl rfl
theorem dX4_leastGrass_109 : decode cX4_leastGrass 109 = .ok (.ireturn, 1) := dq172 bw_cX4_leastGrass_4 13 rfl rfl
theorem bw_cX11_closed_0 : dq_w cX11_closed 0 [42, 180, 0, 19, 182, 1, 39, 154, 0, 6, 16, 254, 172, 42, 180, 0, 56, 42, 180, 0, 19, 3, 42, 180, 0, 26, 182] = true := by decide +kernel
theorem dX11_closed_0 : decode cX11_closed 0 = .ok (.aload_n 0, 1) := dq42 bw_cX11_closed_0 0 rfl rfl
theorem dX11_closed_1 : decode cX11_closed 1 = .ok (.getfield 19, 3) := dq180 bw_cX11_closed_0 1 rfl rfl rfl
theorem dX11_closed_4 : decode cX11_closed 4 = .ok (.invokevirtual 295, 3) := dq182 bw_cX11_closed_0 4 rfl rfl rfl
theorem dX11_closed_7 : decode cX11_closed 7 = .ok (.ifCond .ne 6, 3) := dq154 bw_cX11_closed_0 7 rfl rfl rfl
theorem dX11_closed_10 : decode cX11_closed 10 = .ok (.bipush (-2), 2) := dq16 bw_cX11_closed_0 10 rfl rfl rfl
theorem dX11_closed_12 : decode cX11_closed 12 = .ok (.ireturn, 1) := dq172 bw_cX11_closed_0 12 rfl rfl
theorem dX11_closed_13 : decode cX11_closed 13 = .ok (.aload_n 0, 1) := dq42 bw_cX11_closed_0 13 rfl rfl
theorem dX11_closed_14 : decode cX11_closed 14 = .ok (.getfield 56, 3) := dq180 bw_cX11_closed_0 14 rfl rfl rfl
theorem dX11_closed_17 : decode cX11_closed 17 = .ok (.aload_n 0, 1) := dq42 bw_cX11_closed_0 17 rfl rfl
theorem dX11_closed_18 : decode cX11_closed 18 = .ok (.getfield 19, 3) := dq180 bw_cX11_closed_0 18 rfl rfl rfl
theorem dX11_closed_21 : decode cX11_closed 21 = .ok (.iconst 0, 1) := dq3 bw_cX11_closed_0 21 rfl rfl
theorem dX11_closed_22 : decode cX11_closed 22 = .ok (.aload_n 0, 1) := dq42 bw_cX11_closed_0 22 rfl rfl
theorem dX11_closed_23 : decode cX11_closed 23 = .ok (.getfield 26, 3) := dq180 bw_cX11_closed_0 23 rfl rfl rfl
theorem bw_cX11_closed_1 : dq_w cX11_closed 24 [0, 26, 182, 1, 48, 172] = true := by decide +kernel
theorem dX11_closed_26 : decode cX11_closed 26 = .ok (.invokevirtual 304, 3) := dq182 bw_cX11_closed_1 2 rfl rfl rfl
theorem dX11_closed_29 : decode cX11_closed 29 = .ok (.ireturn, 1) := dq172 bw_cX11_closed_1 5 rfl rfl
theorem bw_cX11_open_0 : dq_w cX11_open 0 [42, 180, 0, 19, 182, 1, 39, 154, 0, 6, 16, 254, 172, 42, 180, 0, 19, 42, 180, 0, 19, 182, 1, 17, 182, 1, 20] = true := by decide +kernel
theorem dX11_open_0 : decode cX11_open 0 = .ok (.aload_n 0, 1) := dq42 bw_cX11_open_0 0 rfl rfl
theorem dX11_open_1 : decode cX11_open 1 = .ok (.getfield 19, 3) := dq180 bw_cX11_open_0 1 rfl rfl rfl
theorem dX11_open_4 : decode cX11_open 4 = .ok (.invokevirtual 295, 3) := dq182 bw_cX11_open_0 4 rfl rfl rfl
theorem dX11_open_7 : decode cX11_open 7 = .ok (.ifCond .ne 6, 3) := dq154 bw_cX11_open_0 7 rfl rfl rfl
theorem dX11_open_10 : decode cX11_open 10 = .ok (.bipush (-2), 2) := dq16 bw_cX11_open_0 10 rfl rfl rfl
theorem dX11_open_12 : decode cX11_open 12 = .ok (.ireturn, 1) := dq172 bw_cX11_open_0 12 rfl rfl
theorem dX11_open_13 : decode cX11_open 13 = .ok (.aload_n 0, 1) := dq42 bw_cX11_open_0 13 rfl rfl
theorem dX11_open_14 : decode cX11_open 14 = .ok (.getfield 19, 3) := dq180 bw_cX11_open_0 14 rfl rfl rfl
theorem dX11_open_17 : decode cX11_open 17 = .ok (.aload_n 0, 1) := dq42 bw_cX11_open_0 17 rfl rfl
theorem dX11_open_18 : decode cX11_open 18 = .ok (.getfield 19, 3) := dq180 bw_cX11_open_0 18 rfl rfl rfl
theorem dX11_open_21 : decode cX11_open 21 = .ok (.invokevirtual 273, 3) := dq182 bw_cX11_open_0 21 rfl rfl rfl
theorem bw_cX11_open_1 : dq_w cX11_open 24 [182, 1, 20, 154, 0, 7, 4, 167, 0, 4, 3, 60, 42, 180, 0, 56, 42, 180, 0, 19, 27, 153, 0, 7, 3, 167, 0] = true := by decide +kernel
theorem dX11_open_24 : decode cX11_open 24 = .ok (.invokevirtual 276, 3) := dq182 bw_cX11_open_1 0 rfl rfl rfl
theorem dX11_open_27 : decode cX11_open 27 = .ok (.ifCond .ne 7, 3) := dq154 bw_cX11_open_1 3 rfl rfl rfl
theorem dX11_open_30 : decode cX11_open 30 = .ok (.iconst 1, 1) := dq4 bw_cX11_open_1 6 rfl rfl
theorem dX11_open_31 : decode cX11_open 31 = .ok (.goto 4, 3) := dq167 bw_cX11_open_1 7 rfl rfl rfl
theorem dX11_open_34 : decode cX11_open 34 = .ok (.iconst 0, 1) := dq3 bw_cX11_open_1 10 rfl rfl
theorem dX11_open_35 : decode cX11_open 35 = .ok (.istore_n 1, 1) := dq60 bw_cX11_open_1 11 rfl rfl
theorem dX11_open_36 : decode cX11_open 36 = .ok (.aload_n 0, 1) := dq42 bw_cX11_open_1 12 rfl rfl
theorem dX11_open_37 : decode cX11_open 37 = .ok (.getfield 56, 3) := dq180 bw_cX11_open_1 13 rfl rfl rfl
theorem dX11_open_40 : decode cX11_open 40 = .ok (.aload_n 0, 1) := dq42 bw_cX11_open_1 16 rfl rfl
theorem dX11_open_41 : decode cX11_open 41 = .ok (.getfield 19, 3) := dq180 bw_cX11_open_1 17 rfl rfl rfl
theorem dX11_open_44 : decode cX11_open 44 = .ok (.iload_n 1, 1) := dq27 bw_cX11_open_1 20 rfl rfl
theorem dX11_open_45 : decode cX11_open 45 = .ok (.ifCond .eq 7, 3) := dq153 bw_cX11_open_1 21 rfl rfl rfl
theorem bw_cX11_open_2 : dq_w cX11_open 48 [3, 167, 0, 4, 5, 42, 180, 0, 26, 182, 1, 48, 172] = true := by decide +kernel
theorem dX11_open_48 : decode cX11_open 48 = .ok (.iconst 0, 1) := dq3 bw_cX11_open_2 0 rfl rfl
theorem dX11_open_49 : decode cX11_open 49 = .ok (.goto 4, 3) := dq167 bw_cX11_open_2 1 rfl rfl rfl
theorem dX11_open_52 : decode cX11_open 52 = .ok (.iconst 2, 1) := dq5 bw_cX11_open_2 4 rfl rfl
theorem dX11_open_53 : decode cX11_open 53 = .ok (.aload_n 0, 1) := dq42 bw_cX11_open_2 5 rfl rfl
theorem dX11_open_54 : decode cX11_open 54 = .ok (.getfield 26, 3) := dq180 bw_cX11_open_2 6 rfl rfl rfl
theorem dX11_open_57 : decode cX11_open 57 = .ok (.invokevirtual 304, 3) := dq182 bw_cX11_open_2 9 rfl rfl rfl
theorem dX11_open_60 : decode cX11_open 60 = .ok (.ireturn, 1) := dq172 bw_cX11_open_2 12 rfl rfl
theorem bw_cX3_fillWithForever_0 : dq_w cX3_fillWithForever 0 [3, 61, 28, 27, 7, 108, 163, 0, 27, 28, 42, 180, 0, 21, 190, 162, 0, 18, 42, 180, 0, 21, 28, 20, 0, 25, 80] = true := by decide +kernel
theorem dX3_fillWithForever_0 : decode cX3_fillWithForever 0 = .ok (.iconst 0, 1) := dq3 bw_cX3_fillWithForever_0 0 rfl rfl
theorem dX3_fillWithForever_1 : decode cX3_fillWithForever 1 = .ok (.istore_n 2, 1) := dq61 bw_cX3_fillWithForever_0 1 rfl rfl
theorem dX3_fillWithForever_2 : decode cX3_fillWithForever 2 = .ok (.iload_n 2, 1) := dq28 bw_cX3_fillWithForever_0 2 rfl rfl
theorem dX3_fillWithForever_3 : decode cX3_fillWithForever 3 = .ok (.iload_n 1, 1) := dq27 bw_cX3_fillWithForever_0 3 rfl rfl
theorem dX3_fillWithForever_4 : decode cX3_fillWithForever 4 = .ok (.iconst 4, 1) := dq7 bw_cX3_fillWithForever_0 4 rfl rfl
theorem dX3_fillWithForever_5 : decode cX3_fillWithForever 5 = .ok (.idiv, 1) := dq108 bw_cX3_fillWithForever_0 5 rfl rfl
theorem dX3_fillWithForever_6 : decode cX3_fillWithForever 6 = .ok (.if_icmp .gt 27, 3) := dq163 bw_cX3_fillWithForever_0 6 rfl rfl rfl
theorem dX3_fillWithForever_9 : decode cX3_fillWithForever 9 = .ok (.iload_n 2, 1) := dq28 bw_cX3_fillWithForever_0 9 rfl rfl
theorem dX3_fillWithForever_10 : decode cX3_fillWithForever 10 = .ok (.aload_n 0, 1) := dq42 bw_cX3_fillWithForever_0 10 rfl rfl
theorem dX3_fillWithForever_11 : decode cX3_fillWithForever 11 = .ok (.getfield 21, 3) := dq180 bw_cX3_fillWithForever_0 11 rfl rfl rfl
theorem dX3_fillWithForever_14 : decode cX3_fillWithForever 14 = .ok (.arraylength, 1) := dq190 bw_cX3_fillWithForever_0 14 rfl rfl
theorem dX3_fillWithForever_15 : decode cX3_fillWithForever 15 = .ok (.if_icmp .ge 18, 3) := dq162 bw_cX3_fillWithForever_0 15 rfl rfl rfl
theorem dX3_fillWithForever_18 : decode cX3_fillWithForever 18 = .ok (.aload_n 0, 1) := dq42 bw_cX3_fillWithForever_0 18 rfl rfl
theorem dX3_fillWithForever_19 : decode cX3_fillWithForever 19 = .ok (.getfield 21, 3) := dq180 bw_cX3_fillWithForever_0 19 rfl rfl rfl
theorem dX3_fillWithForever_22 : decode cX3_fillWithForever 22 = .ok (.iload_n 2, 1) := dq28 bw_cX3_fillWithForever_0 22 rfl rfl
theorem dX3_fillWithForever_23 : decode cX3_fillWithForever 23 = .ok (.ldc2_w 25, 3) := dq20 bw_cX3_fillWithForever_0 23 rfl rfl rfl
theorem bw_cX3_fillWithForever_1 : dq_w cX3_fillWithForever 24 [0, 25, 80, 132, 2, 1, 167, 255, 228, 177] = true := by decide +kernel
theorem dX3_fillWithForever_26 : decode cX3_fillWithForever 26 = .ok (.lastore, 1) := dq80 bw_cX3_fillWithForever_1 2 rfl rfl
theorem dX3_fillWithForever_27 : decode cX3_fillWithForever 27 = .ok (.iinc 2 1, 3) := dq132 bw_cX3_fillWithForever_1 3 rfl rfl rfl
theorem dX3_fillWithForever_30 : decode cX3_fillWithForever 30 = .ok (.goto (-28), 3) := dq167 bw_cX3_fillWithForever_1 6 rfl rfl rfl
theorem dX3_fillWithForever_33 : decode cX3_fillWithForever 33 = .ok (.return_, 1) := dq177 bw_cX3_fillWithForever_1 9 rfl rfl
theorem bw_cX10_extend_0 : dq_w cX10_extend 0 [29, 16, 15, 126, 54, 5, 29, 7, 122, 54, 6, 3, 54, 7, 21, 7, 43, 180, 0, 24, 162, 0, 97, 28, 21, 7, 122] = true := by decide +kernel
theorem dX10_extend_0 : decode cX10_extend 0 = .ok (.iload_n 3, 1) := dq29 bw_cX10_extend_0 0 rfl rfl
theorem dX10_extend_1 : decode cX10_extend 1 = .ok (.bipush 15, 2) := dq16 bw_cX10_extend_0 1 rfl rfl rfl
theorem dX10_extend_3 : decode cX10_extend 3 = .ok (.iand, 1) := dq126 bw_cX10_extend_0 3 rfl rfl
theorem dX10_extend_4 : decode cX10_extend 4 = .ok (.istore 5, 2) := dq54 bw_cX10_extend_0 4 rfl rfl
theorem dX10_extend_6 : decode cX10_extend 6 = .ok (.iload_n 3, 1) := dq29 bw_cX10_extend_0 6 rfl rfl
theorem dX10_extend_7 : decode cX10_extend 7 = .ok (.iconst 4, 1) := dq7 bw_cX10_extend_0 7 rfl rfl
theorem dX10_extend_8 : decode cX10_extend 8 = .ok (.ishr, 1) := dq122 bw_cX10_extend_0 8 rfl rfl
theorem dX10_extend_9 : decode cX10_extend 9 = .ok (.istore 6, 2) := dq54 bw_cX10_extend_0 9 rfl rfl
theorem dX10_extend_11 : decode cX10_extend 11 = .ok (.iconst 0, 1) := dq3 bw_cX10_extend_0 11 rfl rfl
theorem dX10_extend_12 : decode cX10_extend 12 = .ok (.istore 7, 2) := dq54 bw_cX10_extend_0 12 rfl rfl
theorem dX10_extend_14 : decode cX10_extend 14 = .ok (.iload 7, 2) := dq21 bw_cX10_extend_0 14 rfl rfl
theorem dX10_extend_16 : decode cX10_extend 16 = .ok (.aload_n 1, 1) := dq43 bw_cX10_extend_0 16 rfl rfl
theorem dX10_extend_17 : decode cX10_extend 17 = .ok (.getfield 24, 3) := dq180 bw_cX10_extend_0 17 rfl rfl rfl
theorem dX10_extend_20 : decode cX10_extend 20 = .ok (.if_icmp .ge 97, 3) := dq162 bw_cX10_extend_0 20 rfl rfl rfl
theorem dX10_extend_23 : decode cX10_extend 23 = .ok (.iload_n 2, 1) := dq28 bw_cX10_extend_0 23 rfl rfl
theorem bw_cX10_extend_1 : dq_w cX10_extend 24 [21, 7, 122, 4, 126, 154, 0, 82, 43, 21, 7, 21, 5, 182, 0, 45, 153, 0, 71, 21, 6, 43, 21, 7, 21, 5, 182] = true := by decide +kernel
theorem dX10_extend_24 : decode cX10_extend 24 = .ok (.iload 7, 2) := dq21 bw_cX10_extend_1 0 rfl rfl
theorem dX10_extend_26 : decode cX10_extend 26 = .ok (.ishr, 1) := dq122 bw_cX10_extend_1 2 rfl rfl
theorem dX10_extend_27 : decode cX10_extend 27 = .ok (.iconst 1, 1) := dq4 bw_cX10_extend_1 3 rfl rfl
theorem dX10_extend_28 : decode cX10_extend 28 = .ok (.iand, 1) := dq126 bw_cX10_extend_1 4 rfl rfl
theorem dX10_extend_29 : decode cX10_extend 29 = .ok (.ifCond .ne 82, 3) := dq154 bw_cX10_extend_1 5 rfl rfl rfl
theorem dX10_extend_32 : decode cX10_extend 32 = .ok (.aload_n 1, 1) := dq43 bw_cX10_extend_1 8 rfl rfl
theorem dX10_extend_33 : decode cX10_extend 33 = .ok (.iload 7, 2) := dq21 bw_cX10_extend_1 9 rfl rfl
theorem dX10_extend_35 : decode cX10_extend 35 = .ok (.iload 5, 2) := dq21 bw_cX10_extend_1 11 rfl rfl
theorem dX10_extend_37 : decode cX10_extend 37 = .ok (.invokevirtual 45, 3) := dq182 bw_cX10_extend_1 13 rfl rfl rfl
theorem dX10_extend_40 : decode cX10_extend 40 = .ok (.ifCond .eq 71, 3) := dq153 bw_cX10_extend_1 16 rfl rfl rfl
theorem dX10_extend_43 : decode cX10_extend 43 = .ok (.iload 6, 2) := dq21 bw_cX10_extend_1 19 rfl rfl
theorem dX10_extend_45 : decode cX10_extend 45 = .ok (.aload_n 1, 1) := dq43 bw_cX10_extend_1 21 rfl rfl
theorem dX10_extend_46 : decode cX10_extend 46 = .ok (.iload 7, 2) := dq21 bw_cX10_extend_1 22 rfl rfl
theorem bw_cX10_extend_2 : dq_w cX10_extend 48 [21, 5, 182, 0, 49, 96, 54, 8, 21, 8, 7, 120, 43, 21, 7, 21, 5, 182, 0, 53, 128, 54, 9, 28, 4, 21, 7] = true := by decide +kernel
theorem dX10_extend_48 : decode cX10_extend 48 = .ok (.iload 5, 2) := dq21 bw_cX10_extend_2 0 rfl rfl
theorem dX10_extend_50 : decode cX10_extend 50 = .ok (.invokevirtual 49, 3) := dq182 bw_cX10_extend_2 2 rfl rfl rfl
theorem dX10_extend_53 : decode cX10_extend 53 = .ok (.iadd, 1) := dq96 bw_cX10_extend_2 5 rfl rfl
theorem dX10_extend_54 : decode cX10_extend 54 = .ok (.istore 8, 2) := dq54 bw_cX10_extend_2 6 rfl rfl
theorem dX10_extend_56 : decode cX10_extend 56 = .ok (.iload 8, 2) := dq21 bw_cX10_extend_2 8 rfl rfl
theorem dX10_extend_58 : decode cX10_extend 58 = .ok (.iconst 4, 1) := dq7 bw_cX10_extend_2 10 rfl rfl
theorem dX10_extend_59 : decode cX10_extend 59 = .ok (.ishl, 1) := dq120 bw_cX10_extend_2 11 rfl rfl
theorem dX10_extend_60 : decode cX10_extend 60 = .ok (.aload_n 1, 1) := dq43 bw_cX10_extend_2 12 rfl rfl
theorem dX10_extend_61 : decode cX10_extend 61 = .ok (.iload 7, 2) := dq21 bw_cX10_extend_2 13 rfl rfl
theorem dX10_extend_63 : decode cX10_extend 63 = .ok (.iload 5, 2) := dq21 bw_cX10_extend_2 15 rfl rfl
theorem dX10_extend_65 : decode cX10_extend 65 = .ok (.invokevirtual 53, 3) := dq182 bw_cX10_extend_2 17 rfl rfl rfl
theorem dX10_extend_68 : decode cX10_extend 68 = .ok (.ior, 1) := dq128 bw_cX10_extend_2 20 rfl rfl
theorem dX10_extend_69 : decode cX10_extend 69 = .ok (.istore 9, 2) := dq54 bw_cX10_extend_2 21 rfl rfl
theorem dX10_extend_71 : decode cX10_extend 71 = .ok (.iload_n 2, 1) := dq28 bw_cX10_extend_2 23 rfl rfl
theorem bw_cX10_extend_3 : dq_w cX10_extend 72 [4, 21, 7, 120, 128, 54, 10, 21, 8, 21, 4, 163, 0, 28, 21, 9, 42, 180, 0, 14, 21, 10, 182, 0, 36, 162, 0] = true := by decide +kernel
theorem dX10_extend_72 : decode cX10_extend 72 = .ok (.iconst 1, 1) := dq4 bw_cX10_extend_3 0 rfl rfl
theorem dX10_extend_73 : decode cX10_extend 73 = .ok (.iload 7, 2) := dq21 bw_cX10_extend_3 1 rfl rfl
theorem dX10_extend_75 : decode cX10_extend 75 = .ok (.ishl, 1) := dq120 bw_cX10_extend_3 3 rfl rfl
theorem dX10_extend_76 : decode cX10_extend 76 = .ok (.ior, 1) := dq128 bw_cX10_extend_3 4 rfl rfl
theorem dX10_extend_77 : decode cX10_extend 77 = .ok (.istore 10, 2) := dq54 bw_cX10_extend_3 5 rfl rfl
theorem dX10_extend_79 : decode cX10_extend 79 = .ok (.iload 8, 2) := dq21 bw_cX10_extend_3 7 rfl rfl
theorem dX10_extend_81 : decode cX10_extend 81 = .ok (.iload 4, 2) := dq21 bw_cX10_extend_3 9 rfl rfl
theorem dX10_extend_83 : decode cX10_extend 83 = .ok (.if_icmp .gt 28, 3) := dq163 bw_cX10_extend_3 11 rfl rfl rfl
theorem dX10_extend_86 : decode cX10_extend 86 = .ok (.iload 9, 2) := dq21 bw_cX10_extend_3 14 rfl rfl
theorem dX10_extend_88 : decode cX10_extend 88 = .ok (.aload_n 0, 1) := dq42 bw_cX10_extend_3 16 rfl rfl
theorem dX10_extend_89 : decode cX10_extend 89 = .ok (.getfield 14, 3) := dq180 bw_cX10_extend_3 17 rfl rfl rfl
theorem dX10_extend_92 : decode cX10_extend 92 = .ok (.iload 10, 2) := dq21 bw_cX10_extend_3 20 rfl rfl
theorem dX10_extend_94 : decode cX10_extend 94 = .ok (.invokevirtual 36, 3) := dq182 bw_cX10_extend_3 22 rfl rfl rfl
theorem bw_cX10_extend_4 : dq_w cX10_extend 96 [36, 162, 0, 14, 42, 180, 0, 14, 21, 10, 21, 9, 182, 0, 32, 132, 7, 1, 167, 255, 156, 177] = true := by decide +kernel
theorem dX10_extend_97 : decode cX10_extend 97 = .ok (.if_icmp .ge 14, 3) := dq162 bw_cX10_extend_4 1 rfl rfl rfl
theorem dX10_extend_100 : decode cX10_extend 100 = .ok (.aload_n 0, 1) := dq42 bw_cX10_extend_4 4 rfl rfl
theorem dX10_extend_101 : decode cX10_extend 101 = .ok (.getfield 14, 3) := dq180 bw_cX10_extend_4 5 rfl rfl rfl
theorem dX10_extend_104 : decode cX10_extend 104 = .ok (.iload 10, 2) := dq21 bw_cX10_extend_4 8 rfl rfl
theorem dX10_extend_106 : decode cX10_extend 106 = .ok (.iload 9, 2) := dq21 bw_cX10_extend_4 10 rfl rfl
theorem dX10_extend_108 : decode cX10_extend 108 = .ok (.invokevirtual 32, 3) := dq182 bw_cX10_extend_4 12 rfl rfl rfl
theorem dX10_extend_111 : decode cX10_extend 111 = .ok (.iinc 7 1, 3) := dq132 bw_cX10_extend_4 15 rfl rfl rfl
theorem dX10_extend_114 : decode cX10_extend 114 = .ok (.goto (-100), 3) := dq167 bw_cX10_extend_4 18 rfl rfl rfl
theorem dX10_extend_117 : decode cX10_extend 117 = .ok (.return_, 1) := dq177 bw_cX10_extend_4 21 rfl rfl
theorem bw_cX10_explore_0 : dq_w cX10_explore 0 [42, 4, 43, 180, 0, 24, 120, 181, 0, 20, 42, 180, 0, 14, 42, 180, 0, 20, 182, 0, 29, 42, 180, 0, 14, 3, 28] = true := by decide +kernel
theorem dX10_explore_0 : decode cX10_explore 0 = .ok (.aload_n 0, 1) := dq42 bw_cX10_explore_0 0 rfl rfl
theorem dX10_explore_1 : decode cX10_explore 1 = .ok (.iconst 1, 1) := dq4 bw_cX10_explore_0 1 rfl rfl
theorem dX10_explore_2 : decode cX10_explore 2 = .ok (.aload_n 1, 1) := dq43 bw_cX10_explore_0 2 rfl rfl
theorem dX10_explore_3 : decode cX10_explore 3 = .ok (.getfield 24, 3) := dq180 bw_cX10_explore_0 3 rfl rfl rfl
theorem dX10_explore_6 : decode cX10_explore 6 = .ok (.ishl, 1) := dq120 bw_cX10_explore_0 6 rfl rfl
theorem dX10_explore_7 : decode cX10_explore 7 = .ok (.putfield 20, 3) := dq181 bw_cX10_explore_0 7 rfl rfl rfl
theorem dX10_explore_10 : decode cX10_explore 10 = .ok (.aload_n 0, 1) := dq42 bw_cX10_explore_0 10 rfl rfl
theorem dX10_explore_11 : decode cX10_explore 11 = .ok (.getfield 14, 3) := dq180 bw_cX10_explore_0 11 rfl rfl rfl
theorem dX10_explore_14 : decode cX10_explore 14 = .ok (.aload_n 0, 1) := dq42 bw_cX10_explore_0 14 rfl rfl
theorem dX10_explore_15 : decode cX10_explore 15 = .ok (.getfield 20, 3) := dq180 bw_cX10_explore_0 15 rfl rfl rfl
theorem dX10_explore_18 : decode cX10_explore 18 = .ok (.invokevirtual 29, 3) := dq182 bw_cX10_explore_0 18 rfl rfl rfl
theorem dX10_explore_21 : decode cX10_explore 21 = .ok (.aload_n 0, 1) := dq42 bw_cX10_explore_0 21 rfl rfl
theorem dX10_explore_22 : decode cX10_explore 22 = .ok (.getfield 14, 3) := dq180 bw_cX10_explore_0 22 rfl rfl rfl
theorem bw_cX10_explore_1 : dq_w cX10_explore 24 [14, 3, 28, 182, 0, 32, 3, 54, 4, 21, 4, 42, 180, 0, 20, 162, 0, 37, 42, 180, 0, 14, 21, 4, 182, 0, 36] = true := by decide +kernel
theorem dX10_explore_25 : decode cX10_explore 25 = .ok (.iconst 0, 1) := dq3 bw_cX10_explore_1 1 rfl rfl
theorem dX10_explore_26 : decode cX10_explore 26 = .ok (.iload_n 2, 1) := dq28 bw_cX10_explore_1 2 rfl rfl
theorem dX10_explore_27 : decode cX10_explore 27 = .ok (.invokevirtual 32, 3) := dq182 bw_cX10_explore_1 3 rfl rfl rfl
theorem dX10_explore_30 : decode cX10_explore 30 = .ok (.iconst 0, 1) := dq3 bw_cX10_explore_1 6 rfl rfl
theorem dX10_explore_31 : decode cX10_explore 31 = .ok (.istore 4, 2) := dq54 bw_cX10_explore_1 7 rfl rfl
theorem dX10_explore_33 : decode cX10_explore 33 = .ok (.iload 4, 2) := dq21 bw_cX10_explore_1 9 rfl rfl
theorem dX10_explore_35 : decode cX10_explore 35 = .ok (.aload_n 0, 1) := dq42 bw_cX10_explore_1 11 rfl rfl
theorem dX10_explore_36 : decode cX10_explore 36 = .ok (.getfield 20, 3) := dq180 bw_cX10_explore_1 12 rfl rfl rfl
theorem dX10_explore_39 : decode cX10_explore 39 = .ok (.if_icmp .ge 37, 3) := dq162 bw_cX10_explore_1 15 rfl rfl rfl
theorem dX10_explore_42 : decode cX10_explore 42 = .ok (.aload_n 0, 1) := dq42 bw_cX10_explore_1 18 rfl rfl
theorem dX10_explore_43 : decode cX10_explore 43 = .ok (.getfield 14, 3) := dq180 bw_cX10_explore_1 19 rfl rfl rfl
theorem dX10_explore_46 : decode cX10_explore 46 = .ok (.iload 4, 2) := dq21 bw_cX10_explore_1 22 rfl rfl
theorem bw_cX10_explore_2 : dq_w cX10_explore 48 [182, 0, 36, 54, 5, 21, 5, 18, 40, 162, 0, 13, 42, 43, 21, 4, 21, 5, 29, 182, 0, 41, 132, 4, 1, 167, 255] = true := by decide +kernel
theorem dX10_explore_48 : decode cX10_explore 48 = .ok (.invokevirtual 36, 3) := dq182 bw_cX10_explore_2 0 rfl rfl rfl
theorem dX10_explore_51 : decode cX10_explore 51 = .ok (.istore 5, 2) := dq54 bw_cX10_explore_2 3 rfl rfl
theorem dX10_explore_53 : decode cX10_explore 53 = .ok (.iload 5, 2) := dq21 bw_cX10_explore_2 5 rfl rfl
theorem dX10_explore_55 : decode cX10_explore 55 = .ok (.ldc 40, 2) := dq18 bw_cX10_explore_2 7 rfl rfl
theorem dX10_explore_57 : decode cX10_explore 57 = .ok (.if_icmp .ge 13, 3) := dq162 bw_cX10_explore_2 9 rfl rfl rfl
theorem dX10_explore_60 : decode cX10_explore 60 = .ok (.aload_n 0, 1) := dq42 bw_cX10_explore_2 12 rfl rfl
theorem dX10_explore_61 : decode cX10_explore 61 = .ok (.aload_n 1, 1) := dq43 bw_cX10_explore_2 13 rfl rfl
theorem dX10_explore_62 : decode cX10_explore 62 = .ok (.iload 4, 2) := dq21 bw_cX10_explore_2 14 rfl rfl
theorem dX10_explore_64 : decode cX10_explore 64 = .ok (.iload 5, 2) := dq21 bw_cX10_explore_2 16 rfl rfl
theorem dX10_explore_66 : decode cX10_explore 66 = .ok (.iload_n 3, 1) := dq29 bw_cX10_explore_2 18 rfl rfl
theorem dX10_explore_67 : decode cX10_explore 67 = .ok (.invokevirtual 41, 3) := dq182 bw_cX10_explore_2 19 rfl rfl rfl
theorem dX10_explore_70 : decode cX10_explore 70 = .ok (.iinc 4 1, 3) := dq132 bw_cX10_explore_2 22 rfl rfl rfl
theorem bw_cX10_explore_3 : dq_w cX10_explore 72 [1, 167, 255, 216, 177] = true := by decide +kernel
theorem dX10_explore_73 : decode cX10_explore 73 = .ok (.goto (-40), 3) := dq167 bw_cX10_explore_3 1 rfl rfl rfl
theorem dX10_explore_76 : decode cX10_explore 76 = .ok (.return_, 1) := dq177 bw_cX10_explore_3 4 rfl rfl
theorem bw_cX2_worthOf_0 : dq_w cX2_worthOf 0 [3, 61, 3, 62, 29, 42, 180, 0, 15, 162, 0, 26, 27, 29, 122, 4, 126, 153, 0, 12, 28, 42, 180, 0, 46, 29, 46] = true := by decide +kernel
theorem dX2_worthOf_0 : decode cX2_worthOf 0 = .ok (.iconst 0, 1) := dq3 bw_cX2_worthOf_0 0 rfl rfl
theorem dX2_worthOf_1 : decode cX2_worthOf 1 = .ok (.istore_n 2, 1) := dq61 bw_cX2_worthOf_0 1 rfl rfl
theorem dX2_worthOf_2 : decode cX2_worthOf 2 = .ok (.iconst 0, 1) := dq3 bw_cX2_worthOf_0 2 rfl rfl
theorem dX2_worthOf_3 : decode cX2_worthOf 3 = .ok (.istore_n 3, 1) := dq62 bw_cX2_worthOf_0 3 rfl rfl
theorem dX2_worthOf_4 : decode cX2_worthOf 4 = .ok (.iload_n 3, 1) := dq29 bw_cX2_worthOf_0 4 rfl rfl
theorem dX2_worthOf_5 : decode cX2_worthOf 5 = .ok (.aload_n 0, 1) := dq42 bw_cX2_worthOf_0 5 rfl rfl
theorem dX2_worthOf_6 : decode cX2_worthOf 6 = .ok (.getfield 15, 3) := dq180 bw_cX2_worthOf_0 6 rfl rfl rfl
theorem dX2_worthOf_9 : decode cX2_worthOf 9 = .ok (.if_icmp .ge 26, 3) := dq162 bw_cX2_worthOf_0 9 rfl rfl rfl
theorem dX2_worthOf_12 : decode cX2_worthOf 12 = .ok (.iload_n 1, 1) := dq27 bw_cX2_worthOf_0 12 rfl rfl
theorem dX2_worthOf_13 : decode cX2_worthOf 13 = .ok (.iload_n 3, 1) := dq29 bw_cX2_worthOf_0 13 rfl rfl
theorem dX2_worthOf_14 : decode cX2_worthOf 14 = .ok (.ishr, 1) := dq122 bw_cX2_worthOf_0 14 rfl rfl
theorem dX2_worthOf_15 : decode cX2_worthOf 15 = .ok (.iconst 1, 1) := dq4 bw_cX2_worthOf_0 15 rfl rfl
theorem dX2_worthOf_16 : decode cX2_worthOf 16 = .ok (.iand, 1) := dq126 bw_cX2_worthOf_0 16 rfl rfl
theorem dX2_worthOf_17 : decode cX2_worthOf 17 = .ok (.ifCond .eq 12, 3) := dq153 bw_cX2_worthOf_0 17 rfl rfl rfl
theorem dX2_worthOf_20 : decode cX2_worthOf 20 = .ok (.iload_n 2, 1) := dq28 bw_cX2_worthOf_0 20 rfl rfl
theorem dX2_worthOf_21 : decode cX2_worthOf 21 = .ok (.aload_n 0, 1) := dq42 bw_cX2_worthOf_0 21 rfl rfl
theorem dX2_worthOf_22 : decode cX2_worthOf 22 = .ok (.getfield 46, 3) := dq180 bw_cX2_worthOf_0 22 rfl rfl rfl
theorem bw_cX2_worthOf_1 : dq_w cX2_worthOf 24 [46, 29, 46, 96, 61, 132, 3, 1, 167, 255, 228, 28, 172] = true := by decide +kernel
theorem dX2_worthOf_25 : decode cX2_worthOf 25 = .ok (.iload_n 3, 1) := dq29 bw_cX2_worthOf_1 1 rfl rfl
theorem dX2_worthOf_26 : decode cX2_worthOf 26 = .ok (.iaload, 1) := dq46 bw_cX2_worthOf_1 2 rfl rfl
theorem dX2_worthOf_27 : decode cX2_worthOf 27 = .ok (.iadd, 1) := dq96 bw_cX2_worthOf_1 3 rfl rfl
theorem dX2_worthOf_28 : decode cX2_worthOf 28 = .ok (.istore_n 2, 1) := dq61 bw_cX2_worthOf_1 4 rfl rfl
theorem dX2_worthOf_29 : decode cX2_worthOf 29 = .ok (.iinc 3 1, 3) := dq132 bw_cX2_worthOf_1 5 rfl rfl rfl
theorem dX2_worthOf_32 : decode cX2_worthOf 32 = .ok (.goto (-28), 3) := dq167 bw_cX2_worthOf_1 8 rfl rfl rfl
theorem dX2_worthOf_35 : decode cX2_worthOf 35 = .ok (.iload_n 2, 1) := dq28 bw_cX2_worthOf_1 11 rfl rfl
theorem dX2_worthOf_36 : decode cX2_worthOf 36 = .ok (.ireturn, 1) := dq172 bw_cX2_worthOf_1 12 rfl rfl
theorem bw_cX10_minutesOf_0 : dq_w cX10_minutesOf 0 [42, 180, 0, 14, 27, 182, 0, 36, 7, 122, 172] = true := by decide +kernel
theorem dX10_minutesOf_0 : decode cX10_minutesOf 0 = .ok (.aload_n 0, 1) := dq42 bw_cX10_minutesOf_0 0 rfl rfl
theorem dX10_minutesOf_1 : decode cX10_minutesOf 1 = .ok (.getfield 14, 3) := dq180 bw_cX10_minutesOf_0 1 rfl rfl rfl
theorem dX10_minutesOf_4 : decode cX10_minutesOf 4 = .ok (.iload_n 1, 1) := dq27 bw_cX10_minutesOf_0 4 rfl rfl
theorem dX10_minutesOf_5 : decode cX10_minutesOf 5 = .ok (.invokevirtual 36, 3) := dq182 bw_cX10_minutesOf_0 5 rfl rfl rfl
theorem dX10_minutesOf_8 : decode cX10_minutesOf 8 = .ok (.iconst 4, 1) := dq7 bw_cX10_minutesOf_0 8 rfl rfl
theorem dX10_minutesOf_9 : decode cX10_minutesOf 9 = .ok (.ishr, 1) := dq122 bw_cX10_minutesOf_0 9 rfl rfl
theorem dX10_minutesOf_10 : decode cX10_minutesOf 10 = .ok (.ireturn, 1) := dq172 bw_cX10_minutesOf_0 10 rfl rfl
theorem bw_cX10_dearest_0 : dq_w cX10_dearest 0 [3, 54, 4, 3, 54, 5, 4, 54, 6, 21, 6, 42, 180, 0, 20, 162, 0, 85, 42, 180, 0, 14, 21, 6, 182, 0, 36] = true := by decide +kernel
theorem dX10_dearest_0 : decode cX10_dearest 0 = .ok (.iconst 0, 1) := dq3 bw_cX10_dearest_0 0 rfl rfl
theorem dX10_dearest_1 : decode cX10_dearest 1 = .ok (.istore 4, 2) := dq54 bw_cX10_dearest_0 1 rfl rfl
theorem dX10_dearest_3 : decode cX10_dearest 3 = .ok (.iconst 0, 1) := dq3 bw_cX10_dearest_0 3 rfl rfl
theorem dX10_dearest_4 : decode cX10_dearest 4 = .ok (.istore 5, 2) := dq54 bw_cX10_dearest_0 4 rfl rfl
theorem dX10_dearest_6 : decode cX10_dearest 6 = .ok (.iconst 1, 1) := dq4 bw_cX10_dearest_0 6 rfl rfl
theorem dX10_dearest_7 : decode cX10_dearest 7 = .ok (.istore 6, 2) := dq54 bw_cX10_dearest_0 7 rfl rfl
theorem dX10_dearest_9 : decode cX10_dearest 9 = .ok (.iload 6, 2) := dq21 bw_cX10_dearest_0 9 rfl rfl
theorem dX10_dearest_11 : decode cX10_dearest 11 = .ok (.aload_n 0, 1) := dq42 bw_cX10_dearest_0 11 rfl rfl
theorem dX10_dearest_12 : decode cX10_dearest 12 = .ok (.getfield 20, 3) := dq180 bw_cX10_dearest_0 12 rfl rfl rfl
theorem dX10_dearest_15 : decode cX10_dearest 15 = .ok (.if_icmp .ge 85, 3) := dq162 bw_cX10_dearest_0 15 rfl rfl rfl
theorem dX10_dearest_18 : decode cX10_dearest 18 = .ok (.aload_n 0, 1) := dq42 bw_cX10_dearest_0 18 rfl rfl
theorem dX10_dearest_19 : decode cX10_dearest 19 = .ok (.getfield 14, 3) := dq180 bw_cX10_dearest_0 19 rfl rfl rfl
theorem dX10_dearest_22 : decode cX10_dearest 22 = .ok (.iload 6, 2) := dq21 bw_cX10_dearest_0 22 rfl rfl
theorem bw_cX10_dearest_1 : dq_w cX10_dearest 24 [182, 0, 36, 54, 7, 21, 7, 18, 40, 162, 0, 61, 29, 153, 0, 12, 21, 7, 16, 15, 126, 28, 160, 0, 48, 43, 21] = true := by decide +kernel
theorem dX10_dearest_24 : decode cX10_dearest 24 = .ok (.invokevirtual 36, 3) := dq182 bw_cX10_dearest_1 0 rfl rfl rfl
theorem dX10_dearest_27 : decode cX10_dearest 27 = .ok (.istore 7, 2) := dq54 bw_cX10_dearest_1 3 rfl rfl
theorem dX10_dearest_29 : decode cX10_dearest 29 = .ok (.iload 7, 2) := dq21 bw_cX10_dearest_1 5 rfl rfl
theorem dX10_dearest_31 : decode cX10_dearest 31 = .ok (.ldc 40, 2) := dq18 bw_cX10_dearest_1 7 rfl rfl
theorem dX10_dearest_33 : decode cX10_dearest 33 = .ok (.if_icmp .ge 61, 3) := dq162 bw_cX10_dearest_1 9 rfl rfl rfl
theorem dX10_dearest_36 : decode cX10_dearest 36 = .ok (.iload_n 3, 1) := dq29 bw_cX10_dearest_1 12 rfl rfl
theorem dX10_dearest_37 : decode cX10_dearest 37 = .ok (.ifCond .eq 12, 3) := dq153 bw_cX10_dearest_1 13 rfl rfl rfl
theorem dX10_dearest_40 : decode cX10_dearest 40 = .ok (.iload 7, 2) := dq21 bw_cX10_dearest_1 16 rfl rfl
theorem dX10_dearest_42 : decode cX10_dearest 42 = .ok (.bipush 15, 2) := dq16 bw_cX10_dearest_1 18 rfl rfl rfl
theorem dX10_dearest_44 : decode cX10_dearest 44 = .ok (.iand, 1) := dq126 bw_cX10_dearest_1 20 rfl rfl
theorem dX10_dearest_45 : decode cX10_dearest 45 = .ok (.iload_n 2, 1) := dq28 bw_cX10_dearest_1 21 rfl rfl
theorem dX10_dearest_46 : decode cX10_dearest 46 = .ok (.if_icmp .ne 48, 3) := dq160 bw_cX10_dearest_1 22 rfl rfl rfl
theorem bw_cX10_dearest_2 : dq_w cX10_dearest 48 [48, 43, 21, 6, 182, 0, 56, 54, 8, 21, 8, 21, 5, 163, 0, 25, 21, 8, 21, 5, 160, 0, 26, 42, 21, 6, 182] = true := by decide +kernel
theorem dX10_dearest_49 : decode cX10_dearest 49 = .ok (.aload_n 1, 1) := dq43 bw_cX10_dearest_2 1 rfl rfl
theorem dX10_dearest_50 : decode cX10_dearest 50 = .ok (.iload 6, 2) := dq21 bw_cX10_dearest_2 2 rfl rfl
theorem dX10_dearest_52 : decode cX10_dearest 52 = .ok (.invokevirtual 56, 3) := dq182 bw_cX10_dearest_2 4 rfl rfl rfl
theorem dX10_dearest_55 : decode cX10_dearest 55 = .ok (.istore 8, 2) := dq54 bw_cX10_dearest_2 7 rfl rfl
theorem dX10_dearest_57 : decode cX10_dearest 57 = .ok (.iload 8, 2) := dq21 bw_cX10_dearest_2 9 rfl rfl
theorem dX10_dearest_59 : decode cX10_dearest 59 = .ok (.iload 5, 2) := dq21 bw_cX10_dearest_2 11 rfl rfl
theorem dX10_dearest_61 : decode cX10_dearest 61 = .ok (.if_icmp .gt 25, 3) := dq163 bw_cX10_dearest_2 13 rfl rfl rfl
theorem dX10_dearest_64 : decode cX10_dearest 64 = .ok (.iload 8, 2) := dq21 bw_cX10_dearest_2 16 rfl rfl
theorem dX10_dearest_66 : decode cX10_dearest 66 = .ok (.iload 5, 2) := dq21 bw_cX10_dearest_2 18 rfl rfl
theorem dX10_dearest_68 : decode cX10_dearest 68 = .ok (.if_icmp .ne 26, 3) := dq160 bw_cX10_dearest_2 20 rfl rfl rfl
theorem dX10_dearest_71 : decode cX10_dearest 71 = .ok (.aload_n 0, 1) := dq42 bw_cX10_dearest_2 23 rfl rfl
theorem bw_cX10_dearest_3 : dq_w cX10_dearest 72 [21, 6, 182, 0, 59, 42, 21, 4, 182, 0, 59, 162, 0, 11, 21, 8, 54, 5, 21, 6, 54, 4, 132, 6, 1, 167, 255] = true := by decide +kernel
theorem dX10_dearest_72 : decode cX10_dearest 72 = .ok (.iload 6, 2) := dq21 bw_cX10_dearest_3 0 rfl rfl
theorem dX10_dearest_74 : decode cX10_dearest 74 = .ok (.invokevirtual 59, 3) := dq182 bw_cX10_dearest_3 2 rfl rfl rfl
theorem dX10_dearest_77 : decode cX10_dearest 77 = .ok (.aload_n 0, 1) := dq42 bw_cX10_dearest_3 5 rfl rfl
theorem dX10_dearest_78 : decode cX10_dearest 78 = .ok (.iload 4, 2) := dq21 bw_cX10_dearest_3 6 rfl rfl
theorem dX10_dearest_80 : decode cX10_dearest 80 = .ok (.invokevirtual 59, 3) := dq182 bw_cX10_dearest_3 8 rfl rfl rfl
theorem dX10_dearest_83 : decode cX10_dearest 83 = .ok (.if_icmp .ge 11, 3) := dq162 bw_cX10_dearest_3 11 rfl rfl rfl
theorem dX10_dearest_86 : decode cX10_dearest 86 = .ok (.iload 8, 2) := dq21 bw_cX10_dearest_3 14 rfl rfl
theorem dX10_dearest_88 : decode cX10_dearest 88 = .ok (.istore 5, 2) := dq54 bw_cX10_dearest_3 16 rfl rfl
theorem dX10_dearest_90 : decode cX10_dearest 90 = .ok (.iload 6, 2) := dq21 bw_cX10_dearest_3 18 rfl rfl
theorem dX10_dearest_92 : decode cX10_dearest 92 = .ok (.istore 4, 2) := dq54 bw_cX10_dearest_3 20 rfl rfl
theorem dX10_dearest_94 : decode cX10_dearest 94 = .ok (.iinc 6 1, 3) := dq132 bw_cX10_dearest_3 22 rfl rfl rfl
theorem bw_cX10_dearest_4 : dq_w cX10_dearest 96 [1, 167, 255, 168, 21, 4, 172] = true := by decide +kernel
theorem dX10_dearest_97 : decode cX10_dearest 97 = .ok (.goto (-88), 3) := dq167 bw_cX10_dearest_4 1 rfl rfl rfl
theorem dX10_dearest_100 : decode cX10_dearest 100 = .ok (.iload 4, 2) := dq21 bw_cX10_dearest_4 4 rfl rfl
theorem dX10_dearest_102 : decode cX10_dearest 102 = .ok (.ireturn, 1) := dq172 bw_cX10_dearest_4 6 rfl rfl
theorem bw_cX11_mostWorth_0 : dq_w cX11_mostWorth 0 [42, 180, 0, 19, 27, 182, 0, 144, 153, 0, 14, 28, 155, 0, 10, 28, 17, 39, 15, 164, 0, 5, 2, 172, 42, 180, 0] = true := by decide +kernel
theorem dX11_mostWorth_0 : decode cX11_mostWorth 0 = .ok (.aload_n 0, 1) := dq42 bw_cX11_mostWorth_0 0 rfl rfl
theorem dX11_mostWorth_1 : decode cX11_mostWorth 1 = .ok (.getfield 19, 3) := dq180 bw_cX11_mostWorth_0 1 rfl rfl rfl
theorem dX11_mostWorth_4 : decode cX11_mostWorth 4 = .ok (.iload_n 1, 1) := dq27 bw_cX11_mostWorth_0 4 rfl rfl
theorem dX11_mostWorth_5 : decode cX11_mostWorth 5 = .ok (.invokevirtual 144, 3) := dq182 bw_cX11_mostWorth_0 5 rfl rfl rfl
theorem dX11_mostWorth_8 : decode cX11_mostWorth 8 = .ok (.ifCond .eq 14, 3) := dq153 bw_cX11_mostWorth_0 8 rfl rfl rfl
theorem dX11_mostWorth_11 : decode cX11_mostWorth 11 = .ok (.iload_n 2, 1) := dq28 bw_cX11_mostWorth_0 11 rfl rfl
theorem dX11_mostWorth_12 : decode cX11_mostWorth 12 = .ok (.ifCond .lt 10, 3) := dq155 bw_cX11_mostWorth_0 12 rfl rfl rfl
theorem dX11_mostWorth_15 : decode cX11_mostWorth 15 = .ok (.iload_n 2, 1) := dq28 bw_cX11_mostWorth_0 15 rfl rfl
theorem dX11_mostWorth_16 : decode cX11_mostWorth 16 = .ok (.sipush 9999, 3) := dq17 bw_cX11_mostWorth_0 16 rfl rfl rfl
theorem dX11_mostWorth_19 : decode cX11_mostWorth 19 = .ok (.if_icmp .le 5, 3) := dq164 bw_cX11_mostWorth_0 19 rfl rfl rfl
theorem dX11_mostWorth_22 : decode cX11_mostWorth 22 = .ok (.iconst (-1), 1) := dq2 bw_cX11_mostWorth_0 22 rfl rfl
theorem dX11_mostWorth_23 : decode cX11_mostWorth 23 = .ok (.ireturn, 1) := dq172 bw_cX11_mostWorth_0 23 rfl rfl
theorem bw_cX11_mostWorth_1 : dq_w cX11_mostWorth 24 [42, 180, 0, 63, 42, 180, 0, 19, 27, 28, 182, 1, 55, 42, 180, 0, 63, 42, 180, 0, 19, 27, 29, 182, 1, 59, 54] = true := by decide +kernel
theorem dX11_mostWorth_24 : decode cX11_mostWorth 24 = .ok (.aload_n 0, 1) := dq42 bw_cX11_mostWorth_1 0 rfl rfl
theorem dX11_mostWorth_25 : decode cX11_mostWorth 25 = .ok (.getfield 63, 3) := dq180 bw_cX11_mostWorth_1 1 rfl rfl rfl
theorem dX11_mostWorth_28 : decode cX11_mostWorth 28 = .ok (.aload_n 0, 1) := dq42 bw_cX11_mostWorth_1 4 rfl rfl
theorem dX11_mostWorth_29 : decode cX11_mostWorth 29 = .ok (.getfield 19, 3) := dq180 bw_cX11_mostWorth_1 5 rfl rfl rfl
theorem dX11_mostWorth_32 : decode cX11_mostWorth 32 = .ok (.iload_n 1, 1) := dq27 bw_cX11_mostWorth_1 8 rfl rfl
theorem dX11_mostWorth_33 : decode cX11_mostWorth 33 = .ok (.iload_n 2, 1) := dq28 bw_cX11_mostWorth_1 9 rfl rfl
theorem dX11_mostWorth_34 : decode cX11_mostWorth 34 = .ok (.invokevirtual 311, 3) := dq182 bw_cX11_mostWorth_1 10 rfl rfl rfl
theorem dX11_mostWorth_37 : decode cX11_mostWorth 37 = .ok (.aload_n 0, 1) := dq42 bw_cX11_mostWorth_1 13 rfl rfl
theorem dX11_mostWorth_38 : decode cX11_mostWorth 38 = .ok (.getfield 63, 3) := dq180 bw_cX11_mostWorth_1 14 rfl rfl rfl
theorem dX11_mostWorth_41 : decode cX11_mostWorth 41 = .ok (.aload_n 0, 1) := dq42 bw_cX11_mostWorth_1 17 rfl rfl
theorem dX11_mostWorth_42 : decode cX11_mostWorth 42 = .ok (.getfield 19, 3) := dq180 bw_cX11_mostWorth_1 18 rfl rfl rfl
theorem dX11_mostWorth_45 : decode cX11_mostWorth 45 = .ok (.iload_n 1, 1) := dq27 bw_cX11_mostWorth_1 21 rfl rfl
theorem dX11_mostWorth_46 : decode cX11_mostWorth 46 = .ok (.iload_n 3, 1) := dq29 bw_cX11_mostWorth_1 22 rfl rfl
theorem dX11_mostWorth_47 : decode cX11_mostWorth 47 = .ok (.invokevirtual 315, 3) := dq182 bw_cX11_mostWorth_1 23 rfl rfl rfl
theorem bw_cX11_mostWorth_2 : dq_w cX11_mostWorth 48 [1, 59, 54, 4, 42, 180, 0, 26, 21, 4, 182, 0, 224, 42, 180, 0, 26, 42, 180, 0, 63, 21, 4, 182, 1, 62, 182] = true := by decide +kernel
theorem dX11_mostWorth_50 : decode cX11_mostWorth 50 = .ok (.istore 4, 2) := dq54 bw_cX11_mostWorth_2 2 rfl rfl
theorem dX11_mostWorth_52 : decode cX11_mostWorth 52 = .ok (.aload_n 0, 1) := dq42 bw_cX11_mostWorth_2 4 rfl rfl
theorem dX11_mostWorth_53 : decode cX11_mostWorth 53 = .ok (.getfield 26, 3) := dq180 bw_cX11_mostWorth_2 5 rfl rfl rfl
theorem dX11_mostWorth_56 : decode cX11_mostWorth 56 = .ok (.iload 4, 2) := dq21 bw_cX11_mostWorth_2 8 rfl rfl
theorem dX11_mostWorth_58 : decode cX11_mostWorth 58 = .ok (.invokevirtual 224, 3) := dq182 bw_cX11_mostWorth_2 10 rfl rfl rfl
theorem dX11_mostWorth_61 : decode cX11_mostWorth 61 = .ok (.aload_n 0, 1) := dq42 bw_cX11_mostWorth_2 13 rfl rfl
theorem dX11_mostWorth_62 : decode cX11_mostWorth 62 = .ok (.getfield 26, 3) := dq180 bw_cX11_mostWorth_2 14 rfl rfl rfl
theorem dX11_mostWorth_65 : decode cX11_mostWorth 65 = .ok (.aload_n 0, 1) := dq42 bw_cX11_mostWorth_2 17 rfl rfl
theorem dX11_mostWorth_66 : decode cX11_mostWorth 66 = .ok (.getfield 63, 3) := dq180 bw_cX11_mostWorth_2 18 rfl rfl rfl
theorem dX11_mostWorth_69 : decode cX11_mostWorth 69 = .ok (.iload 4, 2) := dq21 bw_cX11_mostWorth_2 21 rfl rfl
theorem dX11_mostWorth_71 : decode cX11_mostWorth 71 = .ok (.invokevirtual 318, 3) := dq182 bw_cX11_mostWorth_2 23 rfl rfl rfl
theorem bw_cX11_mostWorth_3 : dq_w cX11_mostWorth 72 [1, 62, 182, 0, 231, 42, 180, 0, 19, 21, 4, 182, 1, 65, 172] = true := by decide +kernel
theorem dX11_mostWorth_74 : decode cX11_mostWorth 74 = .ok (.invokevirtual 231, 3) := dq182 bw_cX11_mostWorth_3 2 rfl rfl rfl
theorem dX11_mostWorth_77 : decode cX11_mostWorth 77 = .ok (.aload_n 0, 1) := dq42 bw_cX11_mostWorth_3 5 rfl rfl
theorem dX11_mostWorth_78 : decode cX11_mostWorth 78 = .ok (.getfield 19, 3) := dq180 bw_cX11_mostWorth_3 6 rfl rfl rfl
theorem dX11_mostWorth_81 : decode cX11_mostWorth 81 = .ok (.iload 4, 2) := dq21 bw_cX11_mostWorth_3 9 rfl rfl
theorem dX11_mostWorth_83 : decode cX11_mostWorth 83 = .ok (.invokevirtual 321, 3) := dq182 bw_cX11_mostWorth_3 11 rfl rfl rfl
theorem dX11_mostWorth_86 : decode cX11_mostWorth 86 = .ok (.ireturn, 1) := dq172 bw_cX11_mostWorth_3 14 rfl rfl
theorem bw_cX11_most_0 : dq_w cX11_most 0 [42, 27, 28, 3, 182, 1, 51, 172] = true := by decide +kernel
theorem dX11_most_0 : decode cX11_most 0 = .ok (.aload_n 0, 1) := dq42 bw_cX11_most_0 0 rfl rfl
theorem dX11_most_1 : decode cX11_most 1 = .ok (.iload_n 1, 1) := dq27 bw_cX11_most_0 1 rfl rfl
theorem dX11_most_2 : decode cX11_most 2 = .ok (.iload_n 2, 1) := dq28 bw_cX11_most_0 2 rfl rfl
theorem dX11_most_3 : decode cX11_most 3 = .ok (.iconst 0, 1) := dq3 bw_cX11_most_0 3 rfl rfl
theorem dX11_most_4 : decode cX11_most 4 = .ok (.invokevirtual 307, 3) := dq182 bw_cX11_most_0 4 rfl rfl rfl
theorem dX11_most_7 : decode cX11_most 7 = .ok (.ireturn, 1) := dq172 bw_cX11_most_0 7 rfl rfl
theorem bw_cX11_home_0 : dq_w cX11_home 0 [42, 27, 28, 4, 182, 1, 51, 172] = true := by decide +kernel
theorem dX11_home_0 : decode cX11_home 0 = .ok (.aload_n 0, 1) := dq42 bw_cX11_home_0 0 rfl rfl
theorem dX11_home_1 : decode cX11_home 1 = .ok (.iload_n 1, 1) := dq27 bw_cX11_home_0 1 rfl rfl
theorem dX11_home_2 : decode cX11_home 2 = .ok (.iload_n 2, 1) := dq28 bw_cX11_home_0 2 rfl rfl
theorem dX11_home_3 : decode cX11_home 3 = .ok (.iconst 1, 1) := dq4 bw_cX11_home_0 3 rfl rfl
theorem dX11_home_4 : decode cX11_home 4 = .ok (.invokevirtual 307, 3) := dq182 bw_cX11_home_0 4 rfl rfl rfl
theorem dX11_home_7 : decode cX11_home 7 = .ok (.ireturn, 1) := dq172 bw_cX11_home_0 7 rfl rfl
theorem bw_cX10_quickest_0 : dq_w cX10_quickest 0 [2, 62, 18, 40, 54, 4, 3, 54, 5, 21, 5, 42, 180, 0, 20, 162, 0, 55, 42, 180, 0, 14, 21, 5, 182, 0, 36] = true := by decide +kernel
theorem dX10_quickest_0 : decode cX10_quickest 0 = .ok (.iconst (-1), 1) := dq2 bw_cX10_quickest_0 0 rfl rfl
theorem dX10_quickest_1 : decode cX10_quickest 1 = .ok (.istore_n 3, 1) := dq62 bw_cX10_quickest_0 1 rfl rfl
theorem dX10_quickest_2 : decode cX10_quickest 2 = .ok (.ldc 40, 2) := dq18 bw_cX10_quickest_0 2 rfl rfl
theorem dX10_quickest_4 : decode cX10_quickest 4 = .ok (.istore 4, 2) := dq54 bw_cX10_quickest_0 4 rfl rfl
theorem dX10_quickest_6 : decode cX10_quickest 6 = .ok (.iconst 0, 1) := dq3 bw_cX10_quickest_0 6 rfl rfl
theorem dX10_quickest_7 : decode cX10_quickest 7 = .ok (.istore 5, 2) := dq54 bw_cX10_quickest_0 7 rfl rfl
theorem dX10_quickest_9 : decode cX10_quickest 9 = .ok (.iload 5, 2) := dq21 bw_cX10_quickest_0 9 rfl rfl
theorem dX10_quickest_11 : decode cX10_quickest 11 = .ok (.aload_n 0, 1) := dq42 bw_cX10_quickest_0 11 rfl rfl
theorem dX10_quickest_12 : decode cX10_quickest 12 = .ok (.getfield 20, 3) := dq180 bw_cX10_quickest_0 12 rfl rfl rfl
theorem dX10_quickest_15 : decode cX10_quickest 15 = .ok (.if_icmp .ge 55, 3) := dq162 bw_cX10_quickest_0 15 rfl rfl rfl
theorem dX10_quickest_18 : decode cX10_quickest 18 = .ok (.aload_n 0, 1) := dq42 bw_cX10_quickest_0 18 rfl rfl
theorem dX10_quickest_19 : decode cX10_quickest 19 = .ok (.getfield 14, 3) := dq180 bw_cX10_quickest_0 19 rfl rfl rfl
theorem dX10_quickest_22 : decode cX10_quickest 22 = .ok (.iload 5, 2) := dq21 bw_cX10_quickest_0 22 rfl rfl
theorem bw_cX10_quickest_1 : dq_w cX10_quickest 24 [182, 0, 36, 54, 6, 21, 6, 18, 40, 162, 0, 31, 21, 6, 7, 122, 21, 4, 162, 0, 22, 43, 21, 5, 182, 0, 56] = true := by decide +kernel
theorem dX10_quickest_24 : decode cX10_quickest 24 = .ok (.invokevirtual 36, 3) := dq182 bw_cX10_quickest_1 0 rfl rfl rfl
theorem dX10_quickest_27 : decode cX10_quickest 27 = .ok (.istore 6, 2) := dq54 bw_cX10_quickest_1 3 rfl rfl
theorem dX10_quickest_29 : decode cX10_quickest 29 = .ok (.iload 6, 2) := dq21 bw_cX10_quickest_1 5 rfl rfl
theorem dX10_quickest_31 : decode cX10_quickest 31 = .ok (.ldc 40, 2) := dq18 bw_cX10_quickest_1 7 rfl rfl
theorem dX10_quickest_33 : decode cX10_quickest 33 = .ok (.if_icmp .ge 31, 3) := dq162 bw_cX10_quickest_1 9 rfl rfl rfl
theorem dX10_quickest_36 : decode cX10_quickest 36 = .ok (.iload 6, 2) := dq21 bw_cX10_quickest_1 12 rfl rfl
theorem dX10_quickest_38 : decode cX10_quickest 38 = .ok (.iconst 4, 1) := dq7 bw_cX10_quickest_1 14 rfl rfl
theorem dX10_quickest_39 : decode cX10_quickest 39 = .ok (.ishr, 1) := dq122 bw_cX10_quickest_1 15 rfl rfl
theorem dX10_quickest_40 : decode cX10_quickest 40 = .ok (.iload 4, 2) := dq21 bw_cX10_quickest_1 16 rfl rfl
theorem dX10_quickest_42 : decode cX10_quickest 42 = .ok (.if_icmp .ge 22, 3) := dq162 bw_cX10_quickest_1 18 rfl rfl rfl
theorem dX10_quickest_45 : decode cX10_quickest 45 = .ok (.aload_n 1, 1) := dq43 bw_cX10_quickest_1 21 rfl rfl
theorem dX10_quickest_46 : decode cX10_quickest 46 = .ok (.iload 5, 2) := dq21 bw_cX10_quickest_1 22 rfl rfl
theorem bw_cX10_quickest_2 : dq_w cX10_quickest 48 [182, 0, 56, 28, 161, 0, 12, 21, 6, 7, 122, 54, 4, 21, 5, 62, 132, 5, 1, 167, 255, 198, 29, 172] = true := by decide +kernel
theorem dX10_quickest_48 : decode cX10_quickest 48 = .ok (.invokevirtual 56, 3) := dq182 bw_cX10_quickest_2 0 rfl rfl rfl
theorem dX10_quickest_51 : decode cX10_quickest 51 = .ok (.iload_n 2, 1) := dq28 bw_cX10_quickest_2 3 rfl rfl
theorem dX10_quickest_52 : decode cX10_quickest 52 = .ok (.if_icmp .lt 12, 3) := dq161 bw_cX10_quickest_2 4 rfl rfl rfl
theorem dX10_quickest_55 : decode cX10_quickest 55 = .ok (.iload 6, 2) := dq21 bw_cX10_quickest_2 7 rfl rfl
theorem dX10_quickest_57 : decode cX10_quickest 57 = .ok (.iconst 4, 1) := dq7 bw_cX10_quickest_2 9 rfl rfl
theorem dX10_quickest_58 : decode cX10_quickest 58 = .ok (.ishr, 1) := dq122 bw_cX10_quickest_2 10 rfl rfl
theorem dX10_quickest_59 : decode cX10_quickest 59 = .ok (.istore 4, 2) := dq54 bw_cX10_quickest_2 11 rfl rfl
theorem dX10_quickest_61 : decode cX10_quickest 61 = .ok (.iload 5, 2) := dq21 bw_cX10_quickest_2 13 rfl rfl
theorem dX10_quickest_63 : decode cX10_quickest 63 = .ok (.istore_n 3, 1) := dq62 bw_cX10_quickest_2 15 rfl rfl
theorem dX10_quickest_64 : decode cX10_quickest 64 = .ok (.iinc 5 1, 3) := dq132 bw_cX10_quickest_2 16 rfl rfl rfl
theorem dX10_quickest_67 : decode cX10_quickest 67 = .ok (.goto (-58), 3) := dq167 bw_cX10_quickest_2 19 rfl rfl rfl
theorem dX10_quickest_70 : decode cX10_quickest 70 = .ok (.iload_n 3, 1) := dq29 bw_cX10_quickest_2 22 rfl rfl
theorem dX10_quickest_71 : decode cX10_quickest 71 = .ok (.ireturn, 1) := dq172 bw_cX10_quickest_2 23 rfl rfl
theorem bw_cX11_soon_0 : dq_w cX11_soon 0 [42, 180, 0, 19, 27, 182, 0, 144, 153, 0, 14, 28, 155, 0, 10, 28, 17, 0, 200, 164, 0, 5, 2, 172, 42, 180, 0] = true := by decide +kernel
theorem dX11_soon_0 : decode cX11_soon 0 = .ok (.aload_n 0, 1) := dq42 bw_cX11_soon_0 0 rfl rfl
theorem dX11_soon_1 : decode cX11_soon 1 = .ok (.getfield 19, 3) := dq180 bw_cX11_soon_0 1 rfl rfl rfl
theorem dX11_soon_4 : decode cX11_soon 4 = .ok (.iload_n 1, 1) := dq27 bw_cX11_soon_0 4 rfl rfl
theorem dX11_soon_5 : decode cX11_soon 5 = .ok (.invokevirtual 144, 3) := dq182 bw_cX11_soon_0 5 rfl rfl rfl
theorem dX11_soon_8 : decode cX11_soon 8 = .ok (.ifCond .eq 14, 3) := dq153 bw_cX11_soon_0 8 rfl rfl rfl
theorem dX11_soon_11 : decode cX11_soon 11 = .ok (.iload_n 2, 1) := dq28 bw_cX11_soon_0 11 rfl rfl
theorem dX11_soon_12 : decode cX11_soon 12 = .ok (.ifCond .lt 10, 3) := dq155 bw_cX11_soon_0 12 rfl rfl rfl
theorem dX11_soon_15 : decode cX11_soon 15 = .ok (.iload_n 2, 1) := dq28 bw_cX11_soon_0 15 rfl rfl
theorem dX11_soon_16 : decode cX11_soon 16 = .ok (.sipush 200, 3) := dq17 bw_cX11_soon_0 16 rfl rfl rfl
theorem dX11_soon_19 : decode cX11_soon 19 = .ok (.if_icmp .le 5, 3) := dq164 bw_cX11_soon_0 19 rfl rfl rfl
theorem dX11_soon_22 : decode cX11_soon 22 = .ok (.iconst (-1), 1) := dq2 bw_cX11_soon_0 22 rfl rfl
theorem dX11_soon_23 : decode cX11_soon 23 = .ok (.ireturn, 1) := dq172 bw_cX11_soon_0 23 rfl rfl
theorem bw_cX11_soon_1 : dq_w cX11_soon 24 [42, 180, 0, 63, 42, 180, 0, 19, 27, 17, 39, 15, 182, 1, 55, 42, 180, 0, 63, 42, 180, 0, 19, 28, 182, 1, 68] = true := by decide +kernel
theorem dX11_soon_24 : decode cX11_soon 24 = .ok (.aload_n 0, 1) := dq42 bw_cX11_soon_1 0 rfl rfl
theorem dX11_soon_25 : decode cX11_soon 25 = .ok (.getfield 63, 3) := dq180 bw_cX11_soon_1 1 rfl rfl rfl
theorem dX11_soon_28 : decode cX11_soon 28 = .ok (.aload_n 0, 1) := dq42 bw_cX11_soon_1 4 rfl rfl
theorem dX11_soon_29 : decode cX11_soon 29 = .ok (.getfield 19, 3) := dq180 bw_cX11_soon_1 5 rfl rfl rfl
theorem dX11_soon_32 : decode cX11_soon 32 = .ok (.iload_n 1, 1) := dq27 bw_cX11_soon_1 8 rfl rfl
theorem dX11_soon_33 : decode cX11_soon 33 = .ok (.sipush 9999, 3) := dq17 bw_cX11_soon_1 9 rfl rfl rfl
theorem dX11_soon_36 : decode cX11_soon 36 = .ok (.invokevirtual 311, 3) := dq182 bw_cX11_soon_1 12 rfl rfl rfl
theorem dX11_soon_39 : decode cX11_soon 39 = .ok (.aload_n 0, 1) := dq42 bw_cX11_soon_1 15 rfl rfl
theorem dX11_soon_40 : decode cX11_soon 40 = .ok (.getfield 63, 3) := dq180 bw_cX11_soon_1 16 rfl rfl rfl
theorem dX11_soon_43 : decode cX11_soon 43 = .ok (.aload_n 0, 1) := dq42 bw_cX11_soon_1 19 rfl rfl
theorem dX11_soon_44 : decode cX11_soon 44 = .ok (.getfield 19, 3) := dq180 bw_cX11_soon_1 20 rfl rfl rfl
theorem dX11_soon_47 : decode cX11_soon 47 = .ok (.iload_n 2, 1) := dq28 bw_cX11_soon_1 23 rfl rfl
theorem bw_cX11_soon_2 : dq_w cX11_soon 48 [182, 1, 68, 62, 29, 156, 0, 6, 16, 254, 172, 42, 180, 0, 26, 29, 182, 0, 224, 42, 180, 0, 63, 29, 182, 1, 62] = true := by decide +kernel
theorem dX11_soon_48 : decode cX11_soon 48 = .ok (.invokevirtual 324, 3) := dq182 bw_cX11_soon_2 0 rfl rfl rfl
theorem dX11_soon_51 : decode cX11_soon 51 = .ok (.istore_n 3, 1) := dq62 bw_cX11_soon_2 3 rfl rfl
theorem dX11_soon_52 : decode cX11_soon 52 = .ok (.iload_n 3, 1) := dq29 bw_cX11_soon_2 4 rfl rfl
theorem dX11_soon_53 : decode cX11_soon 53 = .ok (.ifCond .ge 6, 3) := dq156 bw_cX11_soon_2 5 rfl rfl rfl
theorem dX11_soon_56 : decode cX11_soon 56 = .ok (.bipush (-2), 2) := dq16 bw_cX11_soon_2 8 rfl rfl rfl
theorem dX11_soon_58 : decode cX11_soon 58 = .ok (.ireturn, 1) := dq172 bw_cX11_soon_2 10 rfl rfl
theorem dX11_soon_59 : decode cX11_soon 59 = .ok (.aload_n 0, 1) := dq42 bw_cX11_soon_2 11 rfl rfl
theorem dX11_soon_60 : decode cX11_soon 60 = .ok (.getfield 26, 3) := dq180 bw_cX11_soon_2 12 rfl rfl rfl
theorem dX11_soon_63 : decode cX11_soon 63 = .ok (.iload_n 3, 1) := dq29 bw_cX11_soon_2 15 rfl rfl
theorem dX11_soon_64 : decode cX11_soon 64 = .ok (.invokevirtual 224, 3) := dq182 bw_cX11_soon_2 16 rfl rfl rfl
theorem dX11_soon_67 : decode cX11_soon 67 = .ok (.aload_n 0, 1) := dq42 bw_cX11_soon_2 19 rfl rfl
theorem dX11_soon_68 : decode cX11_soon 68 = .ok (.getfield 63, 3) := dq180 bw_cX11_soon_2 20 rfl rfl rfl
theorem dX11_soon_71 : decode cX11_soon 71 = .ok (.iload_n 3, 1) := dq29 bw_cX11_soon_2 23 rfl rfl
theorem bw_cX11_soon_3 : dq_w cX11_soon 72 [182, 1, 62, 172] = true := by decide +kernel
theorem dX11_soon_72 : decode cX11_soon 72 = .ok (.invokevirtual 318, 3) := dq182 bw_cX11_soon_3 0 rfl rfl rfl
theorem dX11_soon_75 : decode cX11_soon 75 = .ok (.ireturn, 1) := dq172 bw_cX11_soon_3 3 rfl rfl
theorem bw_cX11_bridges_0 : dq_w cX11_bridges 0 [3, 60, 3, 61, 28, 42, 180, 0, 19, 180, 0, 168, 162, 0, 61, 42, 180, 0, 19, 182, 1, 17, 4, 28, 120, 2, 130] = true := by decide +kernel
theorem dX11_bridges_0 : decode cX11_bridges 0 = .ok (.iconst 0, 1) := dq3 bw_cX11_bridges_0 0 rfl rfl
theorem dX11_bridges_1 : decode cX11_bridges 1 = .ok (.istore_n 1, 1) := dq60 bw_cX11_bridges_0 1 rfl rfl
theorem dX11_bridges_2 : decode cX11_bridges 2 = .ok (.iconst 0, 1) := dq3 bw_cX11_bridges_0 2 rfl rfl
theorem dX11_bridges_3 : decode cX11_bridges 3 = .ok (.istore_n 2, 1) := dq61 bw_cX11_bridges_0 3 rfl rfl
theorem dX11_bridges_4 : decode cX11_bridges 4 = .ok (.iload_n 2, 1) := dq28 bw_cX11_bridges_0 4 rfl rfl
theorem dX11_bridges_5 : decode cX11_bridges 5 = .ok (.aload_n 0, 1) := dq42 bw_cX11_bridges_0 5 rfl rfl
theorem dX11_bridges_6 : decode cX11_bridges 6 = .ok (.getfield 19, 3) := dq180 bw_cX11_bridges_0 6 rfl rfl rfl
theorem dX11_bridges_9 : decode cX11_bridges 9 = .ok (.getfield 168, 3) := dq180 bw_cX11_bridges_0 9 rfl rfl rfl
theorem dX11_bridges_12 : decode cX11_bridges 12 = .ok (.if_icmp .ge 61, 3) := dq162 bw_cX11_bridges_0 12 rfl rfl rfl
theorem dX11_bridges_15 : decode cX11_bridges 15 = .ok (.aload_n 0, 1) := dq42 bw_cX11_bridges_0 15 rfl rfl
theorem dX11_bridges_16 : decode cX11_bridges 16 = .ok (.getfield 19, 3) := dq180 bw_cX11_bridges_0 16 rfl rfl rfl
theorem dX11_bridges_19 : decode cX11_bridges 19 = .ok (.invokevirtual 273, 3) := dq182 bw_cX11_bridges_0 19 rfl rfl rfl
theorem dX11_bridges_22 : decode cX11_bridges 22 = .ok (.iconst 1, 1) := dq4 bw_cX11_bridges_0 22 rfl rfl
theorem dX11_bridges_23 : decode cX11_bridges 23 = .ok (.iload_n 2, 1) := dq28 bw_cX11_bridges_0 23 rfl rfl
theorem bw_cX11_bridges_1 : dq_w cX11_bridges 24 [120, 2, 130, 126, 62, 42, 180, 0, 19, 42, 180, 0, 19, 180, 0, 115, 28, 46, 29, 182, 1, 28, 42, 180, 0, 19, 180] = true := by decide +kernel
theorem dX11_bridges_24 : decode cX11_bridges 24 = .ok (.ishl, 1) := dq120 bw_cX11_bridges_1 0 rfl rfl
theorem dX11_bridges_25 : decode cX11_bridges 25 = .ok (.iconst (-1), 1) := dq2 bw_cX11_bridges_1 1 rfl rfl
theorem dX11_bridges_26 : decode cX11_bridges 26 = .ok (.ixor, 1) := dq130 bw_cX11_bridges_1 2 rfl rfl
theorem dX11_bridges_27 : decode cX11_bridges 27 = .ok (.iand, 1) := dq126 bw_cX11_bridges_1 3 rfl rfl
theorem dX11_bridges_28 : decode cX11_bridges 28 = .ok (.istore_n 3, 1) := dq62 bw_cX11_bridges_1 4 rfl rfl
theorem dX11_bridges_29 : decode cX11_bridges 29 = .ok (.aload_n 0, 1) := dq42 bw_cX11_bridges_1 5 rfl rfl
theorem dX11_bridges_30 : decode cX11_bridges 30 = .ok (.getfield 19, 3) := dq180 bw_cX11_bridges_1 6 rfl rfl rfl
theorem dX11_bridges_33 : decode cX11_bridges 33 = .ok (.aload_n 0, 1) := dq42 bw_cX11_bridges_1 9 rfl rfl
theorem dX11_bridges_34 : decode cX11_bridges 34 = .ok (.getfield 19, 3) := dq180 bw_cX11_bridges_1 10 rfl rfl rfl
theorem dX11_bridges_37 : decode cX11_bridges 37 = .ok (.getfield 115, 3) := dq180 bw_cX11_bridges_1 13 rfl rfl rfl
theorem dX11_bridges_40 : decode cX11_bridges 40 = .ok (.iload_n 2, 1) := dq28 bw_cX11_bridges_1 16 rfl rfl
theorem dX11_bridges_41 : decode cX11_bridges 41 = .ok (.iaload, 1) := dq46 bw_cX11_bridges_1 17 rfl rfl
theorem dX11_bridges_42 : decode cX11_bridges 42 = .ok (.iload_n 3, 1) := dq29 bw_cX11_bridges_1 18 rfl rfl
theorem dX11_bridges_43 : decode cX11_bridges 43 = .ok (.invokevirtual 284, 3) := dq182 bw_cX11_bridges_1 19 rfl rfl rfl
theorem dX11_bridges_46 : decode cX11_bridges 46 = .ok (.aload_n 0, 1) := dq42 bw_cX11_bridges_1 22 rfl rfl
theorem dX11_bridges_47 : decode cX11_bridges 47 = .ok (.getfield 19, 3) := dq180 bw_cX11_bridges_1 23 rfl rfl rfl
theorem bw_cX11_bridges_2 : dq_w cX11_bridges 48 [0, 19, 180, 0, 119, 28, 46, 122, 4, 126, 154, 0, 9, 27, 4, 28, 120, 128, 60, 132, 2, 1, 167, 255, 190, 27, 172] = true := by decide +kernel
theorem dX11_bridges_50 : decode cX11_bridges 50 = .ok (.getfield 119, 3) := dq180 bw_cX11_bridges_2 2 rfl rfl rfl
theorem dX11_bridges_53 : decode cX11_bridges 53 = .ok (.iload_n 2, 1) := dq28 bw_cX11_bridges_2 5 rfl rfl
theorem dX11_bridges_54 : decode cX11_bridges 54 = .ok (.iaload, 1) := dq46 bw_cX11_bridges_2 6 rfl rfl
theorem dX11_bridges_55 : decode cX11_bridges 55 = .ok (.ishr, 1) := dq122 bw_cX11_bridges_2 7 rfl rfl
theorem dX11_bridges_56 : decode cX11_bridges 56 = .ok (.iconst 1, 1) := dq4 bw_cX11_bridges_2 8 rfl rfl
theorem dX11_bridges_57 : decode cX11_bridges 57 = .ok (.iand, 1) := dq126 bw_cX11_bridges_2 9 rfl rfl
theorem dX11_bridges_58 : decode cX11_bridges 58 = .ok (.ifCond .ne 9, 3) := dq154 bw_cX11_bridges_2 10 rfl rfl rfl
theorem dX11_bridges_61 : decode cX11_bridges 61 = .ok (.iload_n 1, 1) := dq27 bw_cX11_bridges_2 13 rfl rfl
theorem dX11_bridges_62 : decode cX11_bridges 62 = .ok (.iconst 1, 1) := dq4 bw_cX11_bridges_2 14 rfl rfl
theorem dX11_bridges_63 : decode cX11_bridges 63 = .ok (.iload_n 2, 1) := dq28 bw_cX11_bridges_2 15 rfl rfl
theorem dX11_bridges_64 : decode cX11_bridges 64 = .ok (.ishl, 1) := dq120 bw_cX11_bridges_2 16 rfl rfl
theorem dX11_bridges_65 : decode cX11_bridges 65 = .ok (.ior, 1) := dq128 bw_cX11_bridges_2 17 rfl rfl
theorem dX11_bridges_66 : decode cX11_bridges 66 = .ok (.istore_n 1, 1) := dq60 bw_cX11_bridges_2 18 rfl rfl
theorem dX11_bridges_67 : decode cX11_bridges 67 = .ok (.iinc 2 1, 3) := dq132 bw_cX11_bridges_2 19 rfl rfl rfl
theorem dX11_bridges_70 : decode cX11_bridges 70 = .ok (.goto (-66), 3) := dq167 bw_cX11_bridges_2 22 rfl rfl rfl
theorem bw_cX11_bridges_3 : dq_w cX11_bridges 72 [190, 27, 172] = true := by decide +kernel
theorem dX11_bridges_73 : decode cX11_bridges 73 = .ok (.iload_n 1, 1) := dq27 bw_cX11_bridges_3 1 rfl rfl
theorem dX11_bridges_74 : decode cX11_bridges 74 = .ok (.ireturn, 1) := dq172 bw_cX11_bridges_3 2 rfl rfl
theorem bw_cX11_reach_0 : dq_w cX11_reach 0 [42, 180, 0, 19, 180, 1, 14, 153, 0, 19, 27, 2, 159, 0, 25, 42, 180, 0, 19, 27, 182, 0, 105, 154, 0, 14, 187] = true := by decide +kernel
theorem dX11_reach_0 : decode cX11_reach 0 = .ok (.aload_n 0, 1) := dq42 bw_cX11_reach_0 0 rfl rfl
theorem dX11_reach_1 : decode cX11_reach 1 = .ok (.getfield 19, 3) := dq180 bw_cX11_reach_0 1 rfl rfl rfl
theorem dX11_reach_4 : decode cX11_reach 4 = .ok (.getfield 270, 3) := dq180 bw_cX11_reach_0 4 rfl rfl rfl
theorem dX11_reach_7 : decode cX11_reach 7 = .ok (.ifCond .eq 19, 3) := dq153 bw_cX11_reach_0 7 rfl rfl rfl
theorem dX11_reach_10 : decode cX11_reach 10 = .ok (.iload_n 1, 1) := dq27 bw_cX11_reach_0 10 rfl rfl
theorem dX11_reach_11 : decode cX11_reach 11 = .ok (.iconst (-1), 1) := dq2 bw_cX11_reach_0 11 rfl rfl
theorem dX11_reach_12 : decode cX11_reach 12 = .ok (.if_icmp .eq 25, 3) := dq159 bw_cX11_reach_0 12 rfl rfl rfl
theorem dX11_reach_15 : decode cX11_reach 15 = .ok (.aload_n 0, 1) := dq42 bw_cX11_reach_0 15 rfl rfl
theorem dX11_reach_16 : decode cX11_reach 16 = .ok (.getfield 19, 3) := dq180 bw_cX11_reach_0 16 rfl rfl rfl
theorem dX11_reach_19 : decode cX11_reach 19 = .ok (.iload_n 1, 1) := dq27 bw_cX11_reach_0 19 rfl rfl
theorem dX11_reach_20 : decode cX11_reach 20 = .ok (.invokevirtual 105, 3) := dq182 bw_cX11_reach_0 20 rfl rfl rfl
theorem dX11_reach_23 : decode cX11_reach 23 = .ok (.ifCond .ne 14, 3) := dq154 bw_cX11_reach_0 23 rfl rfl rfl
theorem bw_cX11_reach_1 : dq_w cX11_reach 24 [0, 14, 187, 0, 108, 89, 19, 1, 71, 183, 0, 112, 191, 3, 61, 3, 62, 29, 42, 180, 0, 19, 180, 0, 168, 162, 0] = true := by decide +kernel
theorem dX11_reach_26 : decode cX11_reach 26 = .ok (.new 108, 3) := dq187 bw_cX11_reach_1 2 rfl rfl rfl
theorem dX11_reach_29 : decode cX11_reach 29 = .ok (.dup, 1) := dq89 bw_cX11_reach_1 5 rfl rfl
theorem dX11_reach_30 : decode cX11_reach 30 = .ok (.ldc_w 327, 3) := dq19 bw_cX11_reach_1 6 rfl rfl rfl
theorem dX11_reach_33 : decode cX11_reach 33 = .ok (.invokespecial 112, 3) := dq183 bw_cX11_reach_1 9 rfl rfl rfl
theorem dX11_reach_36 : decode cX11_reach 36 = .ok (.athrow, 1) := dq191 bw_cX11_reach_1 12 rfl rfl
theorem dX11_reach_37 : decode cX11_reach 37 = .ok (.iconst 0, 1) := dq3 bw_cX11_reach_1 13 rfl rfl
theorem dX11_reach_38 : decode cX11_reach 38 = .ok (.istore_n 2, 1) := dq61 bw_cX11_reach_1 14 rfl rfl
theorem dX11_reach_39 : decode cX11_reach 39 = .ok (.iconst 0, 1) := dq3 bw_cX11_reach_1 15 rfl rfl
theorem dX11_reach_40 : decode cX11_reach 40 = .ok (.istore_n 3, 1) := dq62 bw_cX11_reach_1 16 rfl rfl
theorem dX11_reach_41 : decode cX11_reach 41 = .ok (.iload_n 3, 1) := dq29 bw_cX11_reach_1 17 rfl rfl
theorem dX11_reach_42 : decode cX11_reach 42 = .ok (.aload_n 0, 1) := dq42 bw_cX11_reach_1 18 rfl rfl
theorem dX11_reach_43 : decode cX11_reach 43 = .ok (.getfield 19, 3) := dq180 bw_cX11_reach_1 19 rfl rfl rfl
theorem dX11_reach_46 : decode cX11_reach 46 = .ok (.getfield 168, 3) := dq180 bw_cX11_reach_1 22 rfl rfl rfl
theorem bw_cX11_reach_2 : dq_w cX11_reach 48 [168, 162, 0, 35, 29, 27, 159, 0, 24, 42, 180, 0, 33, 42, 180, 0, 19, 29, 182, 0, 140, 153, 0, 9, 28, 4, 29] = true := by decide +kernel
theorem dX11_reach_49 : decode cX11_reach 49 = .ok (.if_icmp .ge 35, 3) := dq162 bw_cX11_reach_2 1 rfl rfl rfl
theorem dX11_reach_52 : decode cX11_reach 52 = .ok (.iload_n 3, 1) := dq29 bw_cX11_reach_2 4 rfl rfl
theorem dX11_reach_53 : decode cX11_reach 53 = .ok (.iload_n 1, 1) := dq27 bw_cX11_reach_2 5 rfl rfl
theorem dX11_reach_54 : decode cX11_reach 54 = .ok (.if_icmp .eq 24, 3) := dq159 bw_cX11_reach_2 6 rfl rfl rfl
theorem dX11_reach_57 : decode cX11_reach 57 = .ok (.aload_n 0, 1) := dq42 bw_cX11_reach_2 9 rfl rfl
theorem dX11_reach_58 : decode cX11_reach 58 = .ok (.getfield 33, 3) := dq180 bw_cX11_reach_2 10 rfl rfl rfl
theorem dX11_reach_61 : decode cX11_reach 61 = .ok (.aload_n 0, 1) := dq42 bw_cX11_reach_2 13 rfl rfl
theorem dX11_reach_62 : decode cX11_reach 62 = .ok (.getfield 19, 3) := dq180 bw_cX11_reach_2 14 rfl rfl rfl
theorem dX11_reach_65 : decode cX11_reach 65 = .ok (.iload_n 3, 1) := dq29 bw_cX11_reach_2 17 rfl rfl
theorem dX11_reach_66 : decode cX11_reach 66 = .ok (.invokevirtual 140, 3) := dq182 bw_cX11_reach_2 18 rfl rfl rfl
theorem dX11_reach_69 : decode cX11_reach 69 = .ok (.ifCond .eq 9, 3) := dq153 bw_cX11_reach_2 21 rfl rfl rfl
theorem bw_cX11_reach_3 : dq_w cX11_reach 72 [28, 4, 29, 120, 128, 61, 132, 3, 1, 167, 255, 216, 42, 180, 0, 19, 42, 180, 0, 33, 180, 0, 245, 28, 182, 1, 28] = true := by decide +kernel
theorem dX11_reach_72 : decode cX11_reach 72 = .ok (.iload_n 2, 1) := dq28 bw_cX11_reach_3 0 rfl rfl
theorem dX11_reach_73 : decode cX11_reach 73 = .ok (.iconst 1, 1) := dq4 bw_cX11_reach_3 1 rfl rfl
theorem dX11_reach_74 : decode cX11_reach 74 = .ok (.iload_n 3, 1) := dq29 bw_cX11_reach_3 2 rfl rfl
theorem dX11_reach_75 : decode cX11_reach 75 = .ok (.ishl, 1) := dq120 bw_cX11_reach_3 3 rfl rfl
theorem dX11_reach_76 : decode cX11_reach 76 = .ok (.ior, 1) := dq128 bw_cX11_reach_3 4 rfl rfl
theorem dX11_reach_77 : decode cX11_reach 77 = .ok (.istore_n 2, 1) := dq61 bw_cX11_reach_3 5 rfl rfl
theorem dX11_reach_78 : decode cX11_reach 78 = .ok (.iinc 3 1, 3) := dq132 bw_cX11_reach_3 6 rfl rfl rfl
theorem dX11_reach_81 : decode cX11_reach 81 = .ok (.goto (-40), 3) := dq167 bw_cX11_reach_3 9 rfl rfl rfl
theorem dX11_reach_84 : decode cX11_reach 84 = .ok (.aload_n 0, 1) := dq42 bw_cX11_reach_3 12 rfl rfl
theorem dX11_reach_85 : decode cX11_reach 85 = .ok (.getfield 19, 3) := dq180 bw_cX11_reach_3 13 rfl rfl rfl
theorem dX11_reach_88 : decode cX11_reach 88 = .ok (.aload_n 0, 1) := dq42 bw_cX11_reach_3 16 rfl rfl
theorem dX11_reach_89 : decode cX11_reach 89 = .ok (.getfield 33, 3) := dq180 bw_cX11_reach_3 17 rfl rfl rfl
theorem dX11_reach_92 : decode cX11_reach 92 = .ok (.getfield 245, 3) := dq180 bw_cX11_reach_3 20 rfl rfl rfl
theorem dX11_reach_95 : decode cX11_reach 95 = .ok (.iload_n 2, 1) := dq28 bw_cX11_reach_3 23 rfl rfl
theorem bw_cX11_reach_4 : dq_w cX11_reach 96 [182, 1, 28, 172] = true := by decide +kernel
theorem dX11_reach_96 : decode cX11_reach 96 = .ok (.invokevirtual 284, 3) := dq182 bw_cX11_reach_4 0 rfl rfl rfl
theorem dX11_reach_99 : decode cX11_reach 99 = .ok (.ireturn, 1) := dq172 bw_cX11_reach_4 3 rfl rfl
theorem bw_cX1_layPaths_0 : dq_w cX1_layPaths 0 [3, 61, 28, 43, 180, 0, 58, 162, 0, 44, 3, 62, 29, 43, 180, 0, 58, 162, 0, 28, 42, 180, 0, 30, 28, 50, 29] = true := by decide +kernel
theorem dX1_layPaths_0 : decode cX1_layPaths 0 = .ok (.iconst 0, 1) := dq3 bw_cX1_layPaths_0 0 rfl rfl
theorem dX1_layPaths_1 : decode cX1_layPaths 1 = .ok (.istore_n 2, 1) := dq61 bw_cX1_layPaths_0 1 rfl rfl
theorem dX1_layPaths_2 : decode cX1_layPaths 2 = .ok (.iload_n 2, 1) := dq28 bw_cX1_layPaths_0 2 rfl rfl
theorem dX1_layPaths_3 : decode cX1_layPaths 3 = .ok (.aload_n 1, 1) := dq43 bw_cX1_layPaths_0 3 rfl rfl
theorem dX1_layPaths_4 : decode cX1_layPaths 4 = .ok (.getfield 58, 3) := dq180 bw_cX1_layPaths_0 4 rfl rfl rfl
theorem dX1_layPaths_7 : decode cX1_layPaths 7 = .ok (.if_icmp .ge 44, 3) := dq162 bw_cX1_layPaths_0 7 rfl rfl rfl
theorem dX1_layPaths_10 : decode cX1_layPaths 10 = .ok (.iconst 0, 1) := dq3 bw_cX1_layPaths_0 10 rfl rfl
theorem dX1_layPaths_11 : decode cX1_layPaths 11 = .ok (.istore_n 3, 1) := dq62 bw_cX1_layPaths_0 11 rfl rfl
theorem dX1_layPaths_12 : decode cX1_layPaths 12 = .ok (.iload_n 3, 1) := dq29 bw_cX1_layPaths_0 12 rfl rfl
theorem dX1_layPaths_13 : decode cX1_layPaths 13 = .ok (.aload_n 1, 1) := dq43 bw_cX1_layPaths_0 13 rfl rfl
theorem dX1_layPaths_14 : decode cX1_layPaths 14 = .ok (.getfield 58, 3) := dq180 bw_cX1_layPaths_0 14 rfl rfl rfl
theorem dX1_layPaths_17 : decode cX1_layPaths 17 = .ok (.if_icmp .ge 28, 3) := dq162 bw_cX1_layPaths_0 17 rfl rfl rfl
theorem dX1_layPaths_20 : decode cX1_layPaths 20 = .ok (.aload_n 0, 1) := dq42 bw_cX1_layPaths_0 20 rfl rfl
theorem dX1_layPaths_21 : decode cX1_layPaths 21 = .ok (.getfield 30, 3) := dq180 bw_cX1_layPaths_0 21 rfl rfl rfl
theorem bw_cX1_layPaths_1 : dq_w cX1_layPaths 24 [28, 50, 29, 28, 29, 160, 0, 7, 3, 167, 0, 5, 18, 64, 79, 132, 3, 1, 167, 255, 226, 132, 2, 1, 167, 255, 210] = true := by decide +kernel
theorem dX1_layPaths_24 : decode cX1_layPaths 24 = .ok (.iload_n 2, 1) := dq28 bw_cX1_layPaths_1 0 rfl rfl
theorem dX1_layPaths_25 : decode cX1_layPaths 25 = .ok (.aaload, 1) := dq50 bw_cX1_layPaths_1 1 rfl rfl
theorem dX1_layPaths_26 : decode cX1_layPaths 26 = .ok (.iload_n 3, 1) := dq29 bw_cX1_layPaths_1 2 rfl rfl
theorem dX1_layPaths_27 : decode cX1_layPaths 27 = .ok (.iload_n 2, 1) := dq28 bw_cX1_layPaths_1 3 rfl rfl
theorem dX1_layPaths_28 : decode cX1_layPaths 28 = .ok (.iload_n 3, 1) := dq29 bw_cX1_layPaths_1 4 rfl rfl
theorem dX1_layPaths_29 : decode cX1_layPaths 29 = .ok (.if_icmp .ne 7, 3) := dq160 bw_cX1_layPaths_1 5 rfl rfl rfl
theorem dX1_layPaths_32 : decode cX1_layPaths 32 = .ok (.iconst 0, 1) := dq3 bw_cX1_layPaths_1 8 rfl rfl
theorem dX1_layPaths_33 : decode cX1_layPaths 33 = .ok (.goto 5, 3) := dq167 bw_cX1_layPaths_1 9 rfl rfl rfl
theorem dX1_layPaths_36 : decode cX1_layPaths 36 = .ok (.ldc 64, 2) := dq18 bw_cX1_layPaths_1 12 rfl rfl
theorem dX1_layPaths_38 : decode cX1_layPaths 38 = .ok (.iastore, 1) := dq79 bw_cX1_layPaths_1 14 rfl rfl
theorem dX1_layPaths_39 : decode cX1_layPaths 39 = .ok (.iinc 3 1, 3) := dq132 bw_cX1_layPaths_1 15 rfl rfl rfl
theorem dX1_layPaths_42 : decode cX1_layPaths 42 = .ok (.goto (-30), 3) := dq167 bw_cX1_layPaths_1 18 rfl rfl rfl
theorem dX1_layPaths_45 : decode cX1_layPaths 45 = .ok (.iinc 2 1, 3) := dq132 bw_cX1_layPaths_1 21 rfl rfl rfl
theorem bw_cX1_layPaths_2 : dq_w cX1_layPaths 48 [167, 255, 210, 3, 61, 28, 43, 180, 0, 42, 162, 0, 88, 43, 180, 0, 47, 28, 51, 154, 0, 73, 43, 180, 0, 65, 28] = true := by decide +kernel
theorem dX1_layPaths_48 : decode cX1_layPaths 48 = .ok (.goto (-46), 3) := dq167 bw_cX1_layPaths_2 0 rfl rfl rfl
theorem dX1_layPaths_51 : decode cX1_layPaths 51 = .ok (.iconst 0, 1) := dq3 bw_cX1_layPaths_2 3 rfl rfl
theorem dX1_layPaths_52 : decode cX1_layPaths 52 = .ok (.istore_n 2, 1) := dq61 bw_cX1_layPaths_2 4 rfl rfl
theorem dX1_layPaths_53 : decode cX1_layPaths 53 = .ok (.iload_n 2, 1) := dq28 bw_cX1_layPaths_2 5 rfl rfl
theorem dX1_layPaths_54 : decode cX1_layPaths 54 = .ok (.aload_n 1, 1) := dq43 bw_cX1_layPaths_2 6 rfl rfl
theorem dX1_layPaths_55 : decode cX1_layPaths 55 = .ok (.getfield 42, 3) := dq180 bw_cX1_layPaths_2 7 rfl rfl rfl
theorem dX1_layPaths_58 : decode cX1_layPaths 58 = .ok (.if_icmp .ge 88, 3) := dq162 bw_cX1_layPaths_2 10 rfl rfl rfl
theorem dX1_layPaths_61 : decode cX1_layPaths 61 = .ok (.aload_n 1, 1) := dq43 bw_cX1_layPaths_2 13 rfl rfl
theorem dX1_layPaths_62 : decode cX1_layPaths 62 = .ok (.getfield 47, 3) := dq180 bw_cX1_layPaths_2 14 rfl rfl rfl
theorem dX1_layPaths_65 : decode cX1_layPaths 65 = .ok (.iload_n 2, 1) := dq28 bw_cX1_layPaths_2 17 rfl rfl
theorem dX1_layPaths_66 : decode cX1_layPaths 66 = .ok (.baload, 1) := dq51 bw_cX1_layPaths_2 18 rfl rfl
theorem dX1_layPaths_67 : decode cX1_layPaths 67 = .ok (.ifCond .ne 73, 3) := dq154 bw_cX1_layPaths_2 19 rfl rfl rfl
theorem dX1_layPaths_70 : decode cX1_layPaths 70 = .ok (.aload_n 1, 1) := dq43 bw_cX1_layPaths_2 22 rfl rfl
theorem dX1_layPaths_71 : decode cX1_layPaths 71 = .ok (.getfield 65, 3) := dq180 bw_cX1_layPaths_2 23 rfl rfl rfl
theorem bw_cX1_layPaths_3 : dq_w cX1_layPaths 72 [0, 65, 28, 46, 62, 43, 180, 0, 68, 28, 46, 54, 4, 42, 180, 0, 30, 29, 50, 21, 4, 42, 180, 0, 30, 29, 50] = true := by decide +kernel
theorem dX1_layPaths_74 : decode cX1_layPaths 74 = .ok (.iload_n 2, 1) := dq28 bw_cX1_layPaths_3 2 rfl rfl
theorem dX1_layPaths_75 : decode cX1_layPaths 75 = .ok (.iaload, 1) := dq46 bw_cX1_layPaths_3 3 rfl rfl
theorem dX1_layPaths_76 : decode cX1_layPaths 76 = .ok (.istore_n 3, 1) := dq62 bw_cX1_layPaths_3 4 rfl rfl
theorem dX1_layPaths_77 : decode cX1_layPaths 77 = .ok (.aload_n 1, 1) := dq43 bw_cX1_layPaths_3 5 rfl rfl
theorem dX1_layPaths_78 : decode cX1_layPaths 78 = .ok (.getfield 68, 3) := dq180 bw_cX1_layPaths_3 6 rfl rfl rfl
theorem dX1_layPaths_81 : decode cX1_layPaths 81 = .ok (.iload_n 2, 1) := dq28 bw_cX1_layPaths_3 9 rfl rfl
theorem dX1_layPaths_82 : decode cX1_layPaths 82 = .ok (.iaload, 1) := dq46 bw_cX1_layPaths_3 10 rfl rfl
theorem dX1_layPaths_83 : decode cX1_layPaths 83 = .ok (.istore 4, 2) := dq54 bw_cX1_layPaths_3 11 rfl rfl
theorem dX1_layPaths_85 : decode cX1_layPaths 85 = .ok (.aload_n 0, 1) := dq42 bw_cX1_layPaths_3 13 rfl rfl
theorem dX1_layPaths_86 : decode cX1_layPaths 86 = .ok (.getfield 30, 3) := dq180 bw_cX1_layPaths_3 14 rfl rfl rfl
theorem dX1_layPaths_89 : decode cX1_layPaths 89 = .ok (.iload_n 3, 1) := dq29 bw_cX1_layPaths_3 17 rfl rfl
theorem dX1_layPaths_90 : decode cX1_layPaths 90 = .ok (.aaload, 1) := dq50 bw_cX1_layPaths_3 18 rfl rfl
theorem dX1_layPaths_91 : decode cX1_layPaths 91 = .ok (.iload 4, 2) := dq21 bw_cX1_layPaths_3 19 rfl rfl
theorem dX1_layPaths_93 : decode cX1_layPaths 93 = .ok (.aload_n 0, 1) := dq42 bw_cX1_layPaths_3 21 rfl rfl
theorem dX1_layPaths_94 : decode cX1_layPaths 94 = .ok (.getfield 30, 3) := dq180 bw_cX1_layPaths_3 22 rfl rfl rfl
theorem bw_cX1_layPaths_4 : dq_w cX1_layPaths 96 [30, 29, 50, 21, 4, 46, 43, 28, 29, 182, 0, 71, 184, 0, 75, 79, 42, 180, 0, 30, 21, 4, 50, 29, 42, 180, 0] = true := by decide +kernel
theorem dX1_layPaths_97 : decode cX1_layPaths 97 = .ok (.iload_n 3, 1) := dq29 bw_cX1_layPaths_4 1 rfl rfl
theorem dX1_layPaths_98 : decode cX1_layPaths 98 = .ok (.aaload, 1) := dq50 bw_cX1_layPaths_4 2 rfl rfl
theorem dX1_layPaths_99 : decode cX1_layPaths 99 = .ok (.iload 4, 2) := dq21 bw_cX1_layPaths_4 3 rfl rfl
theorem dX1_layPaths_101 : decode cX1_layPaths 101 = .ok (.iaload, 1) := dq46 bw_cX1_layPaths_4 5 rfl rfl
theorem dX1_layPaths_102 : decode cX1_layPaths 102 = .ok (.aload_n 1, 1) := dq43 bw_cX1_layPaths_4 6 rfl rfl
theorem dX1_layPaths_103 : decode cX1_layPaths 103 = .ok (.iload_n 2, 1) := dq28 bw_cX1_layPaths_4 7 rfl rfl
theorem dX1_layPaths_104 : decode cX1_layPaths 104 = .ok (.iload_n 3, 1) := dq29 bw_cX1_layPaths_4 8 rfl rfl
theorem dX1_layPaths_105 : decode cX1_layPaths 105 = .ok (.invokevirtual 71, 3) := dq182 bw_cX1_layPaths_4 9 rfl rfl rfl
theorem dX1_layPaths_108 : decode cX1_layPaths 108 = .ok (.invokestatic 75, 3) := dq184 bw_cX1_layPaths_4 12 rfl rfl rfl
theorem dX1_layPaths_111 : decode cX1_layPaths 111 = .ok (.iastore, 1) := dq79 bw_cX1_layPaths_4 15 rfl rfl
theorem dX1_layPaths_112 : decode cX1_layPaths 112 = .ok (.aload_n 0, 1) := dq42 bw_cX1_layPaths_4 16 rfl rfl
theorem dX1_layPaths_113 : decode cX1_layPaths 113 = .ok (.getfield 30, 3) := dq180 bw_cX1_layPaths_4 17 rfl rfl rfl
theorem dX1_layPaths_116 : decode cX1_layPaths 116 = .ok (.iload 4, 2) := dq21 bw_cX1_layPaths_4 20 rfl rfl
theorem dX1_layPaths_118 : decode cX1_layPaths 118 = .ok (.aaload, 1) := dq50 bw_cX1_layPaths_4 22 rfl rfl
theorem dX1_layPaths_119 : decode cX1_layPaths 119 = .ok (.iload_n 3, 1) := dq29 bw_cX1_layPaths_4 23 rfl rfl
theorem bw_cX1_layPaths_5 : dq_w cX1_layPaths 120 [42, 180, 0, 30, 21, 4, 50, 29, 46, 43, 28, 21, 4, 182, 0, 71, 184, 0, 75, 79, 132, 2, 1, 167, 255, 166, 177] = true := by decide +kernel
theorem dX1_layPaths_120 : decode cX1_layPaths 120 = .ok (.aload_n 0, 1) := dq42 bw_cX1_layPaths_5 0 rfl rfl
theorem dX1_layPaths_121 : decode cX1_layPaths 121 = .ok (.getfield 30, 3) := dq180 bw_cX1_layPaths_5 1 rfl rfl rfl
theorem dX1_layPaths_124 : decode cX1_layPaths 124 = .ok (.iload 4, 2) := dq21 bw_cX1_layPaths_5 4 rfl rfl
theorem dX1_layPaths_126 : decode cX1_layPaths 126 = .ok (.aaload, 1) := dq50 bw_cX1_layPaths_5 6 rfl rfl
theorem dX1_layPaths_127 : decode cX1_layPaths 127 = .ok (.iload_n 3, 1) := dq29 bw_cX1_layPaths_5 7 rfl rfl
theorem dX1_layPaths_128 : decode cX1_layPaths 128 = .ok (.iaload, 1) := dq46 bw_cX1_layPaths_5 8 rfl rfl
theorem dX1_layPaths_129 : decode cX1_layPaths 129 = .ok (.aload_n 1, 1) := dq43 bw_cX1_layPaths_5 9 rfl rfl
theorem dX1_layPaths_130 : decode cX1_layPaths 130 = .ok (.iload_n 2, 1) := dq28 bw_cX1_layPaths_5 10 rfl rfl
theorem dX1_layPaths_131 : decode cX1_layPaths 131 = .ok (.iload 4, 2) := dq21 bw_cX1_layPaths_5 11 rfl rfl
theorem dX1_layPaths_133 : decode cX1_layPaths 133 = .ok (.invokevirtual 71, 3) := dq182 bw_cX1_layPaths_5 13 rfl rfl rfl
theorem dX1_layPaths_136 : decode cX1_layPaths 136 = .ok (.invokestatic 75, 3) := dq184 bw_cX1_layPaths_5 16 rfl rfl rfl
theorem dX1_layPaths_139 : decode cX1_layPaths 139 = .ok (.iastore, 1) := dq79 bw_cX1_layPaths_5 19 rfl rfl
theorem dX1_layPaths_140 : decode cX1_layPaths 140 = .ok (.iinc 2 1, 3) := dq132 bw_cX1_layPaths_5 20 rfl rfl rfl
theorem dX1_layPaths_143 : decode cX1_layPaths 143 = .ok (.goto (-90), 3) := dq167 bw_cX1_layPaths_5 23 rfl rfl rfl
theorem bw_cX1_layPaths_6 : dq_w cX1_layPaths 144 [255, 166, 177] = true := by decide +kernel
theorem dX1_layPaths_146 : decode cX1_layPaths 146 = .ok (.return_, 1) := dq177 bw_cX1_layPaths_6 2 rfl rfl
theorem bw_cX1_shortenPaths_0 : dq_w cX1_shortenPaths 0 [3, 61, 28, 43, 180, 0, 58, 162, 0, 82, 3, 62, 29, 43, 180, 0, 58, 162, 0, 66, 3, 54, 4, 21, 4, 43, 180] = true := by decide +kernel
theorem dX1_shortenPaths_0 : decode cX1_shortenPaths 0 = .ok (.iconst 0, 1) := dq3 bw_cX1_shortenPaths_0 0 rfl rfl
theorem dX1_shortenPaths_1 : decode cX1_shortenPaths 1 = .ok (.istore_n 2, 1) := dq61 bw_cX1_shortenPaths_0 1 rfl rfl
theorem dX1_shortenPaths_2 : decode cX1_shortenPaths 2 = .ok (.iload_n 2, 1) := dq28 bw_cX1_shortenPaths_0 2 rfl rfl
theorem dX1_shortenPaths_3 : decode cX1_shortenPaths 3 = .ok (.aload_n 1, 1) := dq43 bw_cX1_shortenPaths_0 3 rfl rfl
theorem dX1_shortenPaths_4 : decode cX1_shortenPaths 4 = .ok (.getfield 58, 3) := dq180 bw_cX1_shortenPaths_0 4 rfl rfl rfl
theorem dX1_shortenPaths_7 : decode cX1_shortenPaths 7 = .ok (.if_icmp .ge 82, 3) := dq162 bw_cX1_shortenPaths_0 7 rfl rfl rfl
theorem dX1_shortenPaths_10 : decode cX1_shortenPaths 10 = .ok (.iconst 0, 1) := dq3 bw_cX1_shortenPaths_0 10 rfl rfl
theorem dX1_shortenPaths_11 : decode cX1_shortenPaths 11 = .ok (.istore_n 3, 1) := dq62 bw_cX1_shortenPaths_0 11 rfl rfl
theorem dX1_shortenPaths_12 : decode cX1_shortenPaths 12 = .ok (.iload_n 3, 1) := dq29 bw_cX1_shortenPaths_0 12 rfl rfl
theorem dX1_shortenPaths_13 : decode cX1_shortenPaths 13 = .ok (.aload_n 1, 1) := dq43 bw_cX1_shortenPaths_0 13 rfl rfl
theorem dX1_shortenPaths_14 : decode cX1_shortenPaths 14 = .ok (.getfield 58, 3) := dq180 bw_cX1_shortenPaths_0 14 rfl rfl rfl
theorem dX1_shortenPaths_17 : decode cX1_shortenPaths 17 = .ok (.if_icmp .ge 66, 3) := dq162 bw_cX1_shortenPaths_0 17 rfl rfl rfl
theorem dX1_shortenPaths_20 : decode cX1_shortenPaths 20 = .ok (.iconst 0, 1) := dq3 bw_cX1_shortenPaths_0 20 rfl rfl
theorem dX1_shortenPaths_21 : decode cX1_shortenPaths 21 = .ok (.istore 4, 2) := dq54 bw_cX1_shortenPaths_0 21 rfl rfl
theorem dX1_shortenPaths_23 : decode cX1_shortenPaths 23 = .ok (.iload 4, 2) := dq21 bw_cX1_shortenPaths_0 23 rfl rfl
theorem bw_cX1_shortenPaths_1 : dq_w cX1_shortenPaths 24 [4, 43, 180, 0, 58, 162, 0, 48, 42, 180, 0, 30, 29, 50, 21, 4, 42, 180, 0, 30, 29, 50, 21, 4, 46, 42, 180] = true := by decide +kernel
theorem dX1_shortenPaths_25 : decode cX1_shortenPaths 25 = .ok (.aload_n 1, 1) := dq43 bw_cX1_shortenPaths_1 1 rfl rfl
theorem dX1_shortenPaths_26 : decode cX1_shortenPaths 26 = .ok (.getfield 58, 3) := dq180 bw_cX1_shortenPaths_1 2 rfl rfl rfl
theorem dX1_shortenPaths_29 : decode cX1_shortenPaths 29 = .ok (.if_icmp .ge 48, 3) := dq162 bw_cX1_shortenPaths_1 5 rfl rfl rfl
theorem dX1_shortenPaths_32 : decode cX1_shortenPaths 32 = .ok (.aload_n 0, 1) := dq42 bw_cX1_shortenPaths_1 8 rfl rfl
theorem dX1_shortenPaths_33 : decode cX1_shortenPaths 33 = .ok (.getfield 30, 3) := dq180 bw_cX1_shortenPaths_1 9 rfl rfl rfl
theorem dX1_shortenPaths_36 : decode cX1_shortenPaths 36 = .ok (.iload_n 3, 1) := dq29 bw_cX1_shortenPaths_1 12 rfl rfl
theorem dX1_shortenPaths_37 : decode cX1_shortenPaths 37 = .ok (.aaload, 1) := dq50 bw_cX1_shortenPaths_1 13 rfl rfl
theorem dX1_shortenPaths_38 : decode cX1_shortenPaths 38 = .ok (.iload 4, 2) := dq21 bw_cX1_shortenPaths_1 14 rfl rfl
theorem dX1_shortenPaths_40 : decode cX1_shortenPaths 40 = .ok (.aload_n 0, 1) := dq42 bw_cX1_shortenPaths_1 16 rfl rfl
theorem dX1_shortenPaths_41 : decode cX1_shortenPaths 41 = .ok (.getfield 30, 3) := dq180 bw_cX1_shortenPaths_1 17 rfl rfl rfl
theorem dX1_shortenPaths_44 : decode cX1_shortenPaths 44 = .ok (.iload_n 3, 1) := dq29 bw_cX1_shortenPaths_1 20 rfl rfl
theorem dX1_shortenPaths_45 : decode cX1_shortenPaths 45 = .ok (.aaload, 1) := dq50 bw_cX1_shortenPaths_1 21 rfl rfl
theorem dX1_shortenPaths_46 : decode cX1_shortenPaths 46 = .ok (.iload 4, 2) := dq21 bw_cX1_shortenPaths_1 22 rfl rfl
theorem bw_cX1_shortenPaths_2 : dq_w cX1_shortenPaths 48 [46, 42, 180, 0, 30, 29, 50, 28, 46, 42, 180, 0, 30, 28, 50, 21, 4, 46, 96, 184, 0, 75, 79, 132, 4, 1, 167] = true := by decide +kernel
theorem dX1_shortenPaths_48 : decode cX1_shortenPaths 48 = .ok (.iaload, 1) := dq46 bw_cX1_shortenPaths_2 0 rfl rfl
theorem dX1_shortenPaths_49 : decode cX1_shortenPaths 49 = .ok (.aload_n 0, 1) := dq42 bw_cX1_shortenPaths_2 1 rfl rfl
theorem dX1_shortenPaths_50 : decode cX1_shortenPaths 50 = .ok (.getfield 30, 3) := dq180 bw_cX1_shortenPaths_2 2 rfl rfl rfl
theorem dX1_shortenPaths_53 : decode cX1_shortenPaths 53 = .ok (.iload_n 3, 1) := dq29 bw_cX1_shortenPaths_2 5 rfl rfl
theorem dX1_shortenPaths_54 : decode cX1_shortenPaths 54 = .ok (.aaload, 1) := dq50 bw_cX1_shortenPaths_2 6 rfl rfl
theorem dX1_shortenPaths_55 : decode cX1_shortenPaths 55 = .ok (.iload_n 2, 1) := dq28 bw_cX1_shortenPaths_2 7 rfl rfl
theorem dX1_shortenPaths_56 : decode cX1_shortenPaths 56 = .ok (.iaload, 1) := dq46 bw_cX1_shortenPaths_2 8 rfl rfl
theorem dX1_shortenPaths_57 : decode cX1_shortenPaths 57 = .ok (.aload_n 0, 1) := dq42 bw_cX1_shortenPaths_2 9 rfl rfl
theorem dX1_shortenPaths_58 : decode cX1_shortenPaths 58 = .ok (.getfield 30, 3) := dq180 bw_cX1_shortenPaths_2 10 rfl rfl rfl
theorem dX1_shortenPaths_61 : decode cX1_shortenPaths 61 = .ok (.iload_n 2, 1) := dq28 bw_cX1_shortenPaths_2 13 rfl rfl
theorem dX1_shortenPaths_62 : decode cX1_shortenPaths 62 = .ok (.aaload, 1) := dq50 bw_cX1_shortenPaths_2 14 rfl rfl
theorem dX1_shortenPaths_63 : decode cX1_shortenPaths 63 = .ok (.iload 4, 2) := dq21 bw_cX1_shortenPaths_2 15 rfl rfl
theorem dX1_shortenPaths_65 : decode cX1_shortenPaths 65 = .ok (.iaload, 1) := dq46 bw_cX1_shortenPaths_2 17 rfl rfl
theorem dX1_shortenPaths_66 : decode cX1_shortenPaths 66 = .ok (.iadd, 1) := dq96 bw_cX1_shortenPaths_2 18 rfl rfl
theorem dX1_shortenPaths_67 : decode cX1_shortenPaths 67 = .ok (.invokestatic 75, 3) := dq184 bw_cX1_shortenPaths_2 19 rfl rfl rfl
theorem dX1_shortenPaths_70 : decode cX1_shortenPaths 70 = .ok (.iastore, 1) := dq79 bw_cX1_shortenPaths_2 22 rfl rfl
theorem dX1_shortenPaths_71 : decode cX1_shortenPaths 71 = .ok (.iinc 4 1, 3) := dq132 bw_cX1_shortenPaths_2 23 rfl rfl rfl
theorem bw_cX1_shortenPaths_3 : dq_w cX1_shortenPaths 72 [4, 1, 167, 255, 205, 132, 3, 1, 167, 255, 188, 132, 2, 1, 167, 255, 172, 177] = true := by decide +kernel
theorem dX1_shortenPaths_74 : decode cX1_shortenPaths 74 = .ok (.goto (-51), 3) := dq167 bw_cX1_shortenPaths_3 2 rfl rfl rfl
theorem dX1_shortenPaths_77 : decode cX1_shortenPaths 77 = .ok (.iinc 3 1, 3) := dq132 bw_cX1_shortenPaths_3 5 rfl rfl rfl
theorem dX1_shortenPaths_80 : decode cX1_shortenPaths 80 = .ok (.goto (-68), 3) := dq167 bw_cX1_shortenPaths_3 8 rfl rfl rfl
theorem dX1_shortenPaths_83 : decode cX1_shortenPaths 83 = .ok (.iinc 2 1, 3) := dq132 bw_cX1_shortenPaths_3 11 rfl rfl rfl
theorem dX1_shortenPaths_86 : decode cX1_shortenPaths 86 = .ok (.goto (-84), 3) := dq167 bw_cX1_shortenPaths_3 14 rfl rfl rfl
theorem dX1_shortenPaths_89 : decode cX1_shortenPaths 89 = .ok (.return_, 1) := dq177 bw_cX1_shortenPaths_3 17 rfl rfl
theorem bw_cX1_numberInPart_0 : dq_w cX1_numberInPart 0 [42, 180, 0, 22, 27, 4, 27, 120, 79, 42, 180, 0, 25, 27, 3, 79, 27, 4, 100, 61, 28, 155, 0, 41, 42, 180, 0] = true := by decide +kernel
theorem dX1_numberInPart_0 : decode cX1_numberInPart 0 = .ok (.aload_n 0, 1) := dq42 bw_cX1_numberInPart_0 0 rfl rfl
theorem dX1_numberInPart_1 : decode cX1_numberInPart 1 = .ok (.getfield 22, 3) := dq180 bw_cX1_numberInPart_0 1 rfl rfl rfl
theorem dX1_numberInPart_4 : decode cX1_numberInPart 4 = .ok (.iload_n 1, 1) := dq27 bw_cX1_numberInPart_0 4 rfl rfl
theorem dX1_numberInPart_5 : decode cX1_numberInPart 5 = .ok (.iconst 1, 1) := dq4 bw_cX1_numberInPart_0 5 rfl rfl
theorem dX1_numberInPart_6 : decode cX1_numberInPart 6 = .ok (.iload_n 1, 1) := dq27 bw_cX1_numberInPart_0 6 rfl rfl
theorem dX1_numberInPart_7 : decode cX1_numberInPart 7 = .ok (.ishl, 1) := dq120 bw_cX1_numberInPart_0 7 rfl rfl
theorem dX1_numberInPart_8 : decode cX1_numberInPart 8 = .ok (.iastore, 1) := dq79 bw_cX1_numberInPart_0 8 rfl rfl
theorem dX1_numberInPart_9 : decode cX1_numberInPart 9 = .ok (.aload_n 0, 1) := dq42 bw_cX1_numberInPart_0 9 rfl rfl
theorem dX1_numberInPart_10 : decode cX1_numberInPart 10 = .ok (.getfield 25, 3) := dq180 bw_cX1_numberInPart_0 10 rfl rfl rfl
theorem dX1_numberInPart_13 : decode cX1_numberInPart 13 = .ok (.iload_n 1, 1) := dq27 bw_cX1_numberInPart_0 13 rfl rfl
theorem dX1_numberInPart_14 : decode cX1_numberInPart 14 = .ok (.iconst 0, 1) := dq3 bw_cX1_numberInPart_0 14 rfl rfl
theorem dX1_numberInPart_15 : decode cX1_numberInPart 15 = .ok (.iastore, 1) := dq79 bw_cX1_numberInPart_0 15 rfl rfl
theorem dX1_numberInPart_16 : decode cX1_numberInPart 16 = .ok (.iload_n 1, 1) := dq27 bw_cX1_numberInPart_0 16 rfl rfl
theorem dX1_numberInPart_17 : decode cX1_numberInPart 17 = .ok (.iconst 1, 1) := dq4 bw_cX1_numberInPart_0 17 rfl rfl
theorem dX1_numberInPart_18 : decode cX1_numberInPart 18 = .ok (.isub, 1) := dq100 bw_cX1_numberInPart_0 18 rfl rfl
theorem dX1_numberInPart_19 : decode cX1_numberInPart 19 = .ok (.istore_n 2, 1) := dq61 bw_cX1_numberInPart_0 19 rfl rfl
theorem dX1_numberInPart_20 : decode cX1_numberInPart 20 = .ok (.iload_n 2, 1) := dq28 bw_cX1_numberInPart_0 20 rfl rfl
theorem dX1_numberInPart_21 : decode cX1_numberInPart 21 = .ok (.ifCond .lt 41, 3) := dq155 bw_cX1_numberInPart_0 21 rfl rfl rfl
theorem bw_cX1_numberInPart_1 : dq_w cX1_numberInPart 24 [42, 180, 0, 30, 28, 50, 27, 46, 18, 64, 162, 0, 22, 42, 180, 0, 22, 27, 4, 28, 120, 79, 42, 180, 0, 25, 27] = true := by decide +kernel
theorem dX1_numberInPart_24 : decode cX1_numberInPart 24 = .ok (.aload_n 0, 1) := dq42 bw_cX1_numberInPart_1 0 rfl rfl
theorem dX1_numberInPart_25 : decode cX1_numberInPart 25 = .ok (.getfield 30, 3) := dq180 bw_cX1_numberInPart_1 1 rfl rfl rfl
theorem dX1_numberInPart_28 : decode cX1_numberInPart 28 = .ok (.iload_n 2, 1) := dq28 bw_cX1_numberInPart_1 4 rfl rfl
theorem dX1_numberInPart_29 : decode cX1_numberInPart 29 = .ok (.aaload, 1) := dq50 bw_cX1_numberInPart_1 5 rfl rfl
theorem dX1_numberInPart_30 : decode cX1_numberInPart 30 = .ok (.iload_n 1, 1) := dq27 bw_cX1_numberInPart_1 6 rfl rfl
theorem dX1_numberInPart_31 : decode cX1_numberInPart 31 = .ok (.iaload, 1) := dq46 bw_cX1_numberInPart_1 7 rfl rfl
theorem dX1_numberInPart_32 : decode cX1_numberInPart 32 = .ok (.ldc 64, 2) := dq18 bw_cX1_numberInPart_1 8 rfl rfl
theorem dX1_numberInPart_34 : decode cX1_numberInPart 34 = .ok (.if_icmp .ge 22, 3) := dq162 bw_cX1_numberInPart_1 10 rfl rfl rfl
theorem dX1_numberInPart_37 : decode cX1_numberInPart 37 = .ok (.aload_n 0, 1) := dq42 bw_cX1_numberInPart_1 13 rfl rfl
theorem dX1_numberInPart_38 : decode cX1_numberInPart 38 = .ok (.getfield 22, 3) := dq180 bw_cX1_numberInPart_1 14 rfl rfl rfl
theorem dX1_numberInPart_41 : decode cX1_numberInPart 41 = .ok (.iload_n 1, 1) := dq27 bw_cX1_numberInPart_1 17 rfl rfl
theorem dX1_numberInPart_42 : decode cX1_numberInPart 42 = .ok (.iconst 1, 1) := dq4 bw_cX1_numberInPart_1 18 rfl rfl
theorem dX1_numberInPart_43 : decode cX1_numberInPart 43 = .ok (.iload_n 2, 1) := dq28 bw_cX1_numberInPart_1 19 rfl rfl
theorem dX1_numberInPart_44 : decode cX1_numberInPart 44 = .ok (.ishl, 1) := dq120 bw_cX1_numberInPart_1 20 rfl rfl
theorem dX1_numberInPart_45 : decode cX1_numberInPart 45 = .ok (.iastore, 1) := dq79 bw_cX1_numberInPart_1 21 rfl rfl
theorem dX1_numberInPart_46 : decode cX1_numberInPart 46 = .ok (.aload_n 0, 1) := dq42 bw_cX1_numberInPart_1 22 rfl rfl
theorem dX1_numberInPart_47 : decode cX1_numberInPart 47 = .ok (.getfield 25, 3) := dq180 bw_cX1_numberInPart_1 23 rfl rfl rfl
theorem bw_cX1_numberInPart_2 : dq_w cX1_numberInPart 48 [0, 25, 27, 92, 46, 4, 96, 79, 132, 2, 255, 167, 255, 217, 177] = true := by decide +kernel
theorem dX1_numberInPart_50 : decode cX1_numberInPart 50 = .ok (.iload_n 1, 1) := dq27 bw_cX1_numberInPart_2 2 rfl rfl
theorem dX1_numberInPart_51 : decode cX1_numberInPart 51 = .ok (.dup2, 1) := dq92 bw_cX1_numberInPart_2 3 rfl rfl
theorem dX1_numberInPart_52 : decode cX1_numberInPart 52 = .ok (.iaload, 1) := dq46 bw_cX1_numberInPart_2 4 rfl rfl
theorem dX1_numberInPart_53 : decode cX1_numberInPart 53 = .ok (.iconst 1, 1) := dq4 bw_cX1_numberInPart_2 5 rfl rfl
theorem dX1_numberInPart_54 : decode cX1_numberInPart 54 = .ok (.iadd, 1) := dq96 bw_cX1_numberInPart_2 6 rfl rfl
theorem dX1_numberInPart_55 : decode cX1_numberInPart 55 = .ok (.iastore, 1) := dq79 bw_cX1_numberInPart_2 7 rfl rfl
theorem dX1_numberInPart_56 : decode cX1_numberInPart 56 = .ok (.iinc 2 (-1), 3) := dq132 bw_cX1_numberInPart_2 8 rfl rfl rfl
theorem dX1_numberInPart_59 : decode cX1_numberInPart 59 = .ok (.goto (-39), 3) := dq167 bw_cX1_numberInPart_2 11 rfl rfl rfl
theorem dX1_numberInPart_62 : decode cX1_numberInPart 62 = .ok (.return_, 1) := dq177 bw_cX1_numberInPart_2 14 rfl rfl
theorem bw_cX1_prepare_0 : dq_w cX1_prepare 0 [42, 3, 181, 0, 15, 3, 61, 28, 43, 180, 0, 42, 162, 0, 38, 43, 180, 0, 47, 28, 51, 153, 0, 23, 42, 180, 0] = true := by decide +kernel
theorem dX1_prepare_0 : decode cX1_prepare 0 = .ok (.aload_n 0, 1) := dq42 bw_cX1_prepare_0 0 rfl rfl
theorem dX1_prepare_1 : decode cX1_prepare 1 = .ok (.iconst 0, 1) := dq3 bw_cX1_prepare_0 1 rfl rfl
theorem dX1_prepare_2 : decode cX1_prepare 2 = .ok (.putfield 15, 3) := dq181 bw_cX1_prepare_0 2 rfl rfl rfl
theorem dX1_prepare_5 : decode cX1_prepare 5 = .ok (.iconst 0, 1) := dq3 bw_cX1_prepare_0 5 rfl rfl
theorem dX1_prepare_6 : decode cX1_prepare 6 = .ok (.istore_n 2, 1) := dq61 bw_cX1_prepare_0 6 rfl rfl
theorem dX1_prepare_7 : decode cX1_prepare 7 = .ok (.iload_n 2, 1) := dq28 bw_cX1_prepare_0 7 rfl rfl
theorem dX1_prepare_8 : decode cX1_prepare 8 = .ok (.aload_n 1, 1) := dq43 bw_cX1_prepare_0 8 rfl rfl
theorem dX1_prepare_9 : decode cX1_prepare 9 = .ok (.getfield 42, 3) := dq180 bw_cX1_prepare_0 9 rfl rfl rfl
theorem dX1_prepare_12 : decode cX1_prepare 12 = .ok (.if_icmp .ge 38, 3) := dq162 bw_cX1_prepare_0 12 rfl rfl rfl
theorem dX1_prepare_15 : decode cX1_prepare 15 = .ok (.aload_n 1, 1) := dq43 bw_cX1_prepare_0 15 rfl rfl
theorem dX1_prepare_16 : decode cX1_prepare 16 = .ok (.getfield 47, 3) := dq180 bw_cX1_prepare_0 16 rfl rfl rfl
theorem dX1_prepare_19 : decode cX1_prepare 19 = .ok (.iload_n 2, 1) := dq28 bw_cX1_prepare_0 19 rfl rfl
theorem dX1_prepare_20 : decode cX1_prepare 20 = .ok (.baload, 1) := dq51 bw_cX1_prepare_0 20 rfl rfl
theorem dX1_prepare_21 : decode cX1_prepare 21 = .ok (.ifCond .eq 23, 3) := dq153 bw_cX1_prepare_0 21 rfl rfl rfl
theorem bw_cX1_prepare_1 : dq_w cX1_prepare 24 [42, 180, 0, 9, 42, 180, 0, 15, 28, 79, 42, 89, 180, 0, 15, 4, 96, 181, 0, 15, 132, 2, 1, 167, 255, 216, 42] = true := by decide +kernel
theorem dX1_prepare_24 : decode cX1_prepare 24 = .ok (.aload_n 0, 1) := dq42 bw_cX1_prepare_1 0 rfl rfl
theorem dX1_prepare_25 : decode cX1_prepare 25 = .ok (.getfield 9, 3) := dq180 bw_cX1_prepare_1 1 rfl rfl rfl
theorem dX1_prepare_28 : decode cX1_prepare 28 = .ok (.aload_n 0, 1) := dq42 bw_cX1_prepare_1 4 rfl rfl
theorem dX1_prepare_29 : decode cX1_prepare 29 = .ok (.getfield 15, 3) := dq180 bw_cX1_prepare_1 5 rfl rfl rfl
theorem dX1_prepare_32 : decode cX1_prepare 32 = .ok (.iload_n 2, 1) := dq28 bw_cX1_prepare_1 8 rfl rfl
theorem dX1_prepare_33 : decode cX1_prepare 33 = .ok (.iastore, 1) := dq79 bw_cX1_prepare_1 9 rfl rfl
theorem dX1_prepare_34 : decode cX1_prepare 34 = .ok (.aload_n 0, 1) := dq42 bw_cX1_prepare_1 10 rfl rfl
theorem dX1_prepare_35 : decode cX1_prepare 35 = .ok (.dup, 1) := dq89 bw_cX1_prepare_1 11 rfl rfl
theorem dX1_prepare_36 : decode cX1_prepare 36 = .ok (.getfield 15, 3) := dq180 bw_cX1_prepare_1 12 rfl rfl rfl
theorem dX1_prepare_39 : decode cX1_prepare 39 = .ok (.iconst 1, 1) := dq4 bw_cX1_prepare_1 15 rfl rfl
theorem dX1_prepare_40 : decode cX1_prepare 40 = .ok (.iadd, 1) := dq96 bw_cX1_prepare_1 16 rfl rfl
theorem dX1_prepare_41 : decode cX1_prepare 41 = .ok (.putfield 15, 3) := dq181 bw_cX1_prepare_1 17 rfl rfl rfl
theorem dX1_prepare_44 : decode cX1_prepare 44 = .ok (.iinc 2 1, 3) := dq132 bw_cX1_prepare_1 20 rfl rfl rfl
theorem dX1_prepare_47 : decode cX1_prepare 47 = .ok (.goto (-40), 3) := dq167 bw_cX1_prepare_1 23 rfl rfl rfl
theorem bw_cX1_prepare_2 : dq_w cX1_prepare 48 [255, 216, 42, 16, 15, 42, 180, 0, 15, 100, 181, 0, 19, 42, 43, 182, 0, 51, 42, 43, 182, 0, 55, 3, 61, 28, 43] = true := by decide +kernel
theorem dX1_prepare_50 : decode cX1_prepare 50 = .ok (.aload_n 0, 1) := dq42 bw_cX1_prepare_2 2 rfl rfl
theorem dX1_prepare_51 : decode cX1_prepare 51 = .ok (.bipush 15, 2) := dq16 bw_cX1_prepare_2 3 rfl rfl rfl
theorem dX1_prepare_53 : decode cX1_prepare 53 = .ok (.aload_n 0, 1) := dq42 bw_cX1_prepare_2 5 rfl rfl
theorem dX1_prepare_54 : decode cX1_prepare 54 = .ok (.getfield 15, 3) := dq180 bw_cX1_prepare_2 6 rfl rfl rfl
theorem dX1_prepare_57 : decode cX1_prepare 57 = .ok (.isub, 1) := dq100 bw_cX1_prepare_2 9 rfl rfl
theorem dX1_prepare_58 : decode cX1_prepare 58 = .ok (.putfield 19, 3) := dq181 bw_cX1_prepare_2 10 rfl rfl rfl
theorem dX1_prepare_61 : decode cX1_prepare 61 = .ok (.aload_n 0, 1) := dq42 bw_cX1_prepare_2 13 rfl rfl
theorem dX1_prepare_62 : decode cX1_prepare 62 = .ok (.aload_n 1, 1) := dq43 bw_cX1_prepare_2 14 rfl rfl
theorem dX1_prepare_63 : decode cX1_prepare 63 = .ok (.invokevirtual 51, 3) := dq182 bw_cX1_prepare_2 15 rfl rfl rfl
theorem dX1_prepare_66 : decode cX1_prepare 66 = .ok (.aload_n 0, 1) := dq42 bw_cX1_prepare_2 18 rfl rfl
theorem dX1_prepare_67 : decode cX1_prepare 67 = .ok (.aload_n 1, 1) := dq43 bw_cX1_prepare_2 19 rfl rfl
theorem dX1_prepare_68 : decode cX1_prepare 68 = .ok (.invokevirtual 55, 3) := dq182 bw_cX1_prepare_2 20 rfl rfl rfl
theorem dX1_prepare_71 : decode cX1_prepare 71 = .ok (.iconst 0, 1) := dq3 bw_cX1_prepare_2 23 rfl rfl
theorem bw_cX1_prepare_3 : dq_w cX1_prepare 72 [61, 28, 43, 180, 0, 58, 162, 0, 14, 42, 28, 182, 0, 61, 132, 2, 1, 167, 255, 240, 177] = true := by decide +kernel
theorem dX1_prepare_72 : decode cX1_prepare 72 = .ok (.istore_n 2, 1) := dq61 bw_cX1_prepare_3 0 rfl rfl
theorem dX1_prepare_73 : decode cX1_prepare 73 = .ok (.iload_n 2, 1) := dq28 bw_cX1_prepare_3 1 rfl rfl
theorem dX1_prepare_74 : decode cX1_prepare 74 = .ok (.aload_n 1, 1) := dq43 bw_cX1_prepare_3 2 rfl rfl
theorem dX1_prepare_75 : decode cX1_prepare 75 = .ok (.getfield 58, 3) := dq180 bw_cX1_prepare_3 3 rfl rfl rfl
theorem dX1_prepare_78 : decode cX1_prepare 78 = .ok (.if_icmp .ge 14, 3) := dq162 bw_cX1_prepare_3 6 rfl rfl rfl
theorem dX1_prepare_81 : decode cX1_prepare 81 = .ok (.aload_n 0, 1) := dq42 bw_cX1_prepare_3 9 rfl rfl
theorem dX1_prepare_82 : decode cX1_prepare 82 = .ok (.iload_n 2, 1) := dq28 bw_cX1_prepare_3 10 rfl rfl
theorem dX1_prepare_83 : decode cX1_prepare 83 = .ok (.invokevirtual 61, 3) := dq182 bw_cX1_prepare_3 11 rfl rfl rfl
theorem dX1_prepare_86 : decode cX1_prepare 86 = .ok (.iinc 2 1, 3) := dq132 bw_cX1_prepare_3 14 rfl rfl rfl
theorem dX1_prepare_89 : decode cX1_prepare 89 = .ok (.goto (-16), 3) := dq167 bw_cX1_prepare_3 17 rfl rfl rfl
theorem dX1_prepare_92 : decode cX1_prepare 92 = .ok (.return_, 1) := dq177 bw_cX1_prepare_3 20 rfl rfl
theorem bw_cX1_partAfter_0 : dq_w cX1_partAfter 0 [42, 180, 0, 22, 28, 46, 54, 4, 3, 54, 5, 21, 5, 42, 180, 0, 15, 162, 0, 57, 29, 21, 5, 122, 4, 126, 153] = true := by decide +kernel
theorem dX1_partAfter_0 : decode cX1_partAfter 0 = .ok (.aload_n 0, 1) := dq42 bw_cX1_partAfter_0 0 rfl rfl
theorem dX1_partAfter_1 : decode cX1_partAfter 1 = .ok (.getfield 22, 3) := dq180 bw_cX1_partAfter_0 1 rfl rfl rfl
theorem dX1_partAfter_4 : decode cX1_partAfter 4 = .ok (.iload_n 2, 1) := dq28 bw_cX1_partAfter_0 4 rfl rfl
theorem dX1_partAfter_5 : decode cX1_partAfter 5 = .ok (.iaload, 1) := dq46 bw_cX1_partAfter_0 5 rfl rfl
theorem dX1_partAfter_6 : decode cX1_partAfter 6 = .ok (.istore 4, 2) := dq54 bw_cX1_partAfter_0 6 rfl rfl
theorem dX1_partAfter_8 : decode cX1_partAfter 8 = .ok (.iconst 0, 1) := dq3 bw_cX1_partAfter_0 8 rfl rfl
theorem dX1_partAfter_9 : decode cX1_partAfter 9 = .ok (.istore 5, 2) := dq54 bw_cX1_partAfter_0 9 rfl rfl
theorem dX1_partAfter_11 : decode cX1_partAfter 11 = .ok (.iload 5, 2) := dq21 bw_cX1_partAfter_0 11 rfl rfl
theorem dX1_partAfter_13 : decode cX1_partAfter 13 = .ok (.aload_n 0, 1) := dq42 bw_cX1_partAfter_0 13 rfl rfl
theorem dX1_partAfter_14 : decode cX1_partAfter 14 = .ok (.getfield 15, 3) := dq180 bw_cX1_partAfter_0 14 rfl rfl rfl
theorem dX1_partAfter_17 : decode cX1_partAfter 17 = .ok (.if_icmp .ge 57, 3) := dq162 bw_cX1_partAfter_0 17 rfl rfl rfl
theorem dX1_partAfter_20 : decode cX1_partAfter 20 = .ok (.iload_n 3, 1) := dq29 bw_cX1_partAfter_0 20 rfl rfl
theorem dX1_partAfter_21 : decode cX1_partAfter 21 = .ok (.iload 5, 2) := dq21 bw_cX1_partAfter_0 21 rfl rfl
theorem dX1_partAfter_23 : decode cX1_partAfter 23 = .ok (.ishr, 1) := dq122 bw_cX1_partAfter_0 23 rfl rfl
theorem bw_cX1_partAfter_1 : dq_w cX1_partAfter 24 [4, 126, 153, 0, 42, 42, 180, 0, 9, 21, 5, 46, 54, 6, 21, 4, 42, 180, 0, 22, 43, 180, 0, 65, 21, 6, 46] = true := by decide +kernel
theorem dX1_partAfter_24 : decode cX1_partAfter 24 = .ok (.iconst 1, 1) := dq4 bw_cX1_partAfter_1 0 rfl rfl
theorem dX1_partAfter_25 : decode cX1_partAfter 25 = .ok (.iand, 1) := dq126 bw_cX1_partAfter_1 1 rfl rfl
theorem dX1_partAfter_26 : decode cX1_partAfter 26 = .ok (.ifCond .eq 42, 3) := dq153 bw_cX1_partAfter_1 2 rfl rfl rfl
theorem dX1_partAfter_29 : decode cX1_partAfter 29 = .ok (.aload_n 0, 1) := dq42 bw_cX1_partAfter_1 5 rfl rfl
theorem dX1_partAfter_30 : decode cX1_partAfter 30 = .ok (.getfield 9, 3) := dq180 bw_cX1_partAfter_1 6 rfl rfl rfl
theorem dX1_partAfter_33 : decode cX1_partAfter 33 = .ok (.iload 5, 2) := dq21 bw_cX1_partAfter_1 9 rfl rfl
theorem dX1_partAfter_35 : decode cX1_partAfter 35 = .ok (.iaload, 1) := dq46 bw_cX1_partAfter_1 11 rfl rfl
theorem dX1_partAfter_36 : decode cX1_partAfter 36 = .ok (.istore 6, 2) := dq54 bw_cX1_partAfter_1 12 rfl rfl
theorem dX1_partAfter_38 : decode cX1_partAfter 38 = .ok (.iload 4, 2) := dq21 bw_cX1_partAfter_1 14 rfl rfl
theorem dX1_partAfter_40 : decode cX1_partAfter 40 = .ok (.aload_n 0, 1) := dq42 bw_cX1_partAfter_1 16 rfl rfl
theorem dX1_partAfter_41 : decode cX1_partAfter 41 = .ok (.getfield 22, 3) := dq180 bw_cX1_partAfter_1 17 rfl rfl rfl
theorem dX1_partAfter_44 : decode cX1_partAfter 44 = .ok (.aload_n 1, 1) := dq43 bw_cX1_partAfter_1 20 rfl rfl
theorem dX1_partAfter_45 : decode cX1_partAfter 45 = .ok (.getfield 65, 3) := dq180 bw_cX1_partAfter_1 21 rfl rfl rfl
theorem bw_cX1_partAfter_2 : dq_w cX1_partAfter 48 [21, 6, 46, 46, 42, 180, 0, 22, 43, 180, 0, 68, 21, 6, 46, 46, 130, 130, 54, 4, 132, 5, 1, 167, 255, 196, 21] = true := by decide +kernel
theorem dX1_partAfter_48 : decode cX1_partAfter 48 = .ok (.iload 6, 2) := dq21 bw_cX1_partAfter_2 0 rfl rfl
theorem dX1_partAfter_50 : decode cX1_partAfter 50 = .ok (.iaload, 1) := dq46 bw_cX1_partAfter_2 2 rfl rfl
theorem dX1_partAfter_51 : decode cX1_partAfter 51 = .ok (.iaload, 1) := dq46 bw_cX1_partAfter_2 3 rfl rfl
theorem dX1_partAfter_52 : decode cX1_partAfter 52 = .ok (.aload_n 0, 1) := dq42 bw_cX1_partAfter_2 4 rfl rfl
theorem dX1_partAfter_53 : decode cX1_partAfter 53 = .ok (.getfield 22, 3) := dq180 bw_cX1_partAfter_2 5 rfl rfl rfl
theorem dX1_partAfter_56 : decode cX1_partAfter 56 = .ok (.aload_n 1, 1) := dq43 bw_cX1_partAfter_2 8 rfl rfl
theorem dX1_partAfter_57 : decode cX1_partAfter 57 = .ok (.getfield 68, 3) := dq180 bw_cX1_partAfter_2 9 rfl rfl rfl
theorem dX1_partAfter_60 : decode cX1_partAfter 60 = .ok (.iload 6, 2) := dq21 bw_cX1_partAfter_2 12 rfl rfl
theorem dX1_partAfter_62 : decode cX1_partAfter 62 = .ok (.iaload, 1) := dq46 bw_cX1_partAfter_2 14 rfl rfl
theorem dX1_partAfter_63 : decode cX1_partAfter 63 = .ok (.iaload, 1) := dq46 bw_cX1_partAfter_2 15 rfl rfl
theorem dX1_partAfter_64 : decode cX1_partAfter 64 = .ok (.ixor, 1) := dq130 bw_cX1_partAfter_2 16 rfl rfl
theorem dX1_partAfter_65 : decode cX1_partAfter 65 = .ok (.ixor, 1) := dq130 bw_cX1_partAfter_2 17 rfl rfl
theorem dX1_partAfter_66 : decode cX1_partAfter 66 = .ok (.istore 4, 2) := dq54 bw_cX1_partAfter_2 18 rfl rfl
theorem dX1_partAfter_68 : decode cX1_partAfter 68 = .ok (.iinc 5 1, 3) := dq132 bw_cX1_partAfter_2 20 rfl rfl rfl
theorem dX1_partAfter_71 : decode cX1_partAfter 71 = .ok (.goto (-60), 3) := dq167 bw_cX1_partAfter_2 23 rfl rfl rfl
theorem bw_cX1_partAfter_3 : dq_w cX1_partAfter 72 [255, 196, 21, 4, 172] = true := by decide +kernel
theorem dX1_partAfter_74 : decode cX1_partAfter 74 = .ok (.iload 4, 2) := dq21 bw_cX1_partAfter_3 2 rfl rfl
theorem dX1_partAfter_76 : decode cX1_partAfter 76 = .ok (.ireturn, 1) := dq172 bw_cX1_partAfter_3 4 rfl rfl
theorem bw_cX1_placeOf_0 : dq_w cX1_placeOf 0 [27, 42, 180, 0, 19, 104, 42, 180, 0, 25, 28, 46, 96, 172] = true := by decide +kernel
theorem dX1_placeOf_0 : decode cX1_placeOf 0 = .ok (.iload_n 1, 1) := dq27 bw_cX1_placeOf_0 0 rfl rfl
theorem dX1_placeOf_1 : decode cX1_placeOf 1 = .ok (.aload_n 0, 1) := dq42 bw_cX1_placeOf_0 1 rfl rfl
theorem dX1_placeOf_2 : decode cX1_placeOf 2 = .ok (.getfield 19, 3) := dq180 bw_cX1_placeOf_0 2 rfl rfl rfl
theorem dX1_placeOf_5 : decode cX1_placeOf 5 = .ok (.imul, 1) := dq104 bw_cX1_placeOf_0 5 rfl rfl
theorem dX1_placeOf_6 : decode cX1_placeOf 6 = .ok (.aload_n 0, 1) := dq42 bw_cX1_placeOf_0 6 rfl rfl
theorem dX1_placeOf_7 : decode cX1_placeOf 7 = .ok (.getfield 25, 3) := dq180 bw_cX1_placeOf_0 7 rfl rfl rfl
theorem dX1_placeOf_10 : decode cX1_placeOf 10 = .ok (.iload_n 2, 1) := dq28 bw_cX1_placeOf_0 10 rfl rfl
theorem dX1_placeOf_11 : decode cX1_placeOf 11 = .ok (.iaload, 1) := dq46 bw_cX1_placeOf_0 11 rfl rfl
theorem dX1_placeOf_12 : decode cX1_placeOf 12 = .ok (.iadd, 1) := dq96 bw_cX1_placeOf_0 12 rfl rfl
theorem dX1_placeOf_13 : decode cX1_placeOf 13 = .ok (.ireturn, 1) := dq172 bw_cX1_placeOf_0 13 rfl rfl
theorem bw_cX1_minutesBy_0 : dq_w cX1_minutesBy 0 [42, 180, 0, 30, 29, 50, 21, 5, 46, 18, 64, 161, 0, 6, 18, 64, 172, 42, 180, 0, 9, 21, 4, 46, 54, 6, 42] = true := by decide +kernel
theorem dX1_minutesBy_0 : decode cX1_minutesBy 0 = .ok (.aload_n 0, 1) := dq42 bw_cX1_minutesBy_0 0 rfl rfl
theorem dX1_minutesBy_1 : decode cX1_minutesBy 1 = .ok (.getfield 30, 3) := dq180 bw_cX1_minutesBy_0 1 rfl rfl rfl
theorem dX1_minutesBy_4 : decode cX1_minutesBy 4 = .ok (.iload_n 3, 1) := dq29 bw_cX1_minutesBy_0 4 rfl rfl
theorem dX1_minutesBy_5 : decode cX1_minutesBy 5 = .ok (.aaload, 1) := dq50 bw_cX1_minutesBy_0 5 rfl rfl
theorem dX1_minutesBy_6 : decode cX1_minutesBy 6 = .ok (.iload 5, 2) := dq21 bw_cX1_minutesBy_0 6 rfl rfl
theorem dX1_minutesBy_8 : decode cX1_minutesBy 8 = .ok (.iaload, 1) := dq46 bw_cX1_minutesBy_0 8 rfl rfl
theorem dX1_minutesBy_9 : decode cX1_minutesBy 9 = .ok (.ldc 64, 2) := dq18 bw_cX1_minutesBy_0 9 rfl rfl
theorem dX1_minutesBy_11 : decode cX1_minutesBy 11 = .ok (.if_icmp .lt 6, 3) := dq161 bw_cX1_minutesBy_0 11 rfl rfl rfl
theorem dX1_minutesBy_14 : decode cX1_minutesBy 14 = .ok (.ldc 64, 2) := dq18 bw_cX1_minutesBy_0 14 rfl rfl
theorem dX1_minutesBy_16 : decode cX1_minutesBy 16 = .ok (.ireturn, 1) := dq172 bw_cX1_minutesBy_0 16 rfl rfl
theorem dX1_minutesBy_17 : decode cX1_minutesBy 17 = .ok (.aload_n 0, 1) := dq42 bw_cX1_minutesBy_0 17 rfl rfl
theorem dX1_minutesBy_18 : decode cX1_minutesBy 18 = .ok (.getfield 9, 3) := dq180 bw_cX1_minutesBy_0 18 rfl rfl rfl
theorem dX1_minutesBy_21 : decode cX1_minutesBy 21 = .ok (.iload 4, 2) := dq21 bw_cX1_minutesBy_0 21 rfl rfl
theorem dX1_minutesBy_23 : decode cX1_minutesBy 23 = .ok (.iaload, 1) := dq46 bw_cX1_minutesBy_0 23 rfl rfl
theorem bw_cX1_minutesBy_1 : dq_w cX1_minutesBy 24 [54, 6, 42, 180, 0, 38, 42, 28, 4, 21, 4, 120, 128, 43, 21, 6, 21, 5, 182, 0, 107, 182, 0, 90, 182, 0, 100] = true := by decide +kernel
theorem dX1_minutesBy_24 : decode cX1_minutesBy 24 = .ok (.istore 6, 2) := dq54 bw_cX1_minutesBy_1 0 rfl rfl
theorem dX1_minutesBy_26 : decode cX1_minutesBy 26 = .ok (.aload_n 0, 1) := dq42 bw_cX1_minutesBy_1 2 rfl rfl
theorem dX1_minutesBy_27 : decode cX1_minutesBy 27 = .ok (.getfield 38, 3) := dq180 bw_cX1_minutesBy_1 3 rfl rfl rfl
theorem dX1_minutesBy_30 : decode cX1_minutesBy 30 = .ok (.aload_n 0, 1) := dq42 bw_cX1_minutesBy_1 6 rfl rfl
theorem dX1_minutesBy_31 : decode cX1_minutesBy 31 = .ok (.iload_n 2, 1) := dq28 bw_cX1_minutesBy_1 7 rfl rfl
theorem dX1_minutesBy_32 : decode cX1_minutesBy 32 = .ok (.iconst 1, 1) := dq4 bw_cX1_minutesBy_1 8 rfl rfl
theorem dX1_minutesBy_33 : decode cX1_minutesBy 33 = .ok (.iload 4, 2) := dq21 bw_cX1_minutesBy_1 9 rfl rfl
theorem dX1_minutesBy_35 : decode cX1_minutesBy 35 = .ok (.ishl, 1) := dq120 bw_cX1_minutesBy_1 11 rfl rfl
theorem dX1_minutesBy_36 : decode cX1_minutesBy 36 = .ok (.ior, 1) := dq128 bw_cX1_minutesBy_1 12 rfl rfl
theorem dX1_minutesBy_37 : decode cX1_minutesBy 37 = .ok (.aload_n 1, 1) := dq43 bw_cX1_minutesBy_1 13 rfl rfl
theorem dX1_minutesBy_38 : decode cX1_minutesBy 38 = .ok (.iload 6, 2) := dq21 bw_cX1_minutesBy_1 14 rfl rfl
theorem dX1_minutesBy_40 : decode cX1_minutesBy 40 = .ok (.iload 5, 2) := dq21 bw_cX1_minutesBy_1 16 rfl rfl
theorem dX1_minutesBy_42 : decode cX1_minutesBy 42 = .ok (.invokevirtual 107, 3) := dq182 bw_cX1_minutesBy_1 18 rfl rfl rfl
theorem dX1_minutesBy_45 : decode cX1_minutesBy 45 = .ok (.invokevirtual 90, 3) := dq182 bw_cX1_minutesBy_1 21 rfl rfl rfl
theorem bw_cX1_minutesBy_2 : dq_w cX1_minutesBy 48 [182, 0, 100, 54, 7, 18, 64, 42, 180, 0, 30, 29, 50, 21, 5, 46, 43, 21, 6, 21, 5, 182, 0, 71, 96, 21, 7] = true := by decide +kernel
theorem dX1_minutesBy_48 : decode cX1_minutesBy 48 = .ok (.invokevirtual 100, 3) := dq182 bw_cX1_minutesBy_2 0 rfl rfl rfl
theorem dX1_minutesBy_51 : decode cX1_minutesBy 51 = .ok (.istore 7, 2) := dq54 bw_cX1_minutesBy_2 3 rfl rfl
theorem dX1_minutesBy_53 : decode cX1_minutesBy 53 = .ok (.ldc 64, 2) := dq18 bw_cX1_minutesBy_2 5 rfl rfl
theorem dX1_minutesBy_55 : decode cX1_minutesBy 55 = .ok (.aload_n 0, 1) := dq42 bw_cX1_minutesBy_2 7 rfl rfl
theorem dX1_minutesBy_56 : decode cX1_minutesBy 56 = .ok (.getfield 30, 3) := dq180 bw_cX1_minutesBy_2 8 rfl rfl rfl
theorem dX1_minutesBy_59 : decode cX1_minutesBy 59 = .ok (.iload_n 3, 1) := dq29 bw_cX1_minutesBy_2 11 rfl rfl
theorem dX1_minutesBy_60 : decode cX1_minutesBy 60 = .ok (.aaload, 1) := dq50 bw_cX1_minutesBy_2 12 rfl rfl
theorem dX1_minutesBy_61 : decode cX1_minutesBy 61 = .ok (.iload 5, 2) := dq21 bw_cX1_minutesBy_2 13 rfl rfl
theorem dX1_minutesBy_63 : decode cX1_minutesBy 63 = .ok (.iaload, 1) := dq46 bw_cX1_minutesBy_2 15 rfl rfl
theorem dX1_minutesBy_64 : decode cX1_minutesBy 64 = .ok (.aload_n 1, 1) := dq43 bw_cX1_minutesBy_2 16 rfl rfl
theorem dX1_minutesBy_65 : decode cX1_minutesBy 65 = .ok (.iload 6, 2) := dq21 bw_cX1_minutesBy_2 17 rfl rfl
theorem dX1_minutesBy_67 : decode cX1_minutesBy 67 = .ok (.iload 5, 2) := dq21 bw_cX1_minutesBy_2 19 rfl rfl
theorem dX1_minutesBy_69 : decode cX1_minutesBy 69 = .ok (.invokevirtual 71, 3) := dq182 bw_cX1_minutesBy_2 21 rfl rfl rfl
theorem bw_cX1_minutesBy_3 : dq_w cX1_minutesBy 72 [96, 21, 7, 96, 184, 0, 75, 172] = true := by decide +kernel
theorem dX1_minutesBy_72 : decode cX1_minutesBy 72 = .ok (.iadd, 1) := dq96 bw_cX1_minutesBy_3 0 rfl rfl
theorem dX1_minutesBy_73 : decode cX1_minutesBy 73 = .ok (.iload 7, 2) := dq21 bw_cX1_minutesBy_3 1 rfl rfl
theorem dX1_minutesBy_75 : decode cX1_minutesBy 75 = .ok (.iadd, 1) := dq96 bw_cX1_minutesBy_3 3 rfl rfl
theorem dX1_minutesBy_76 : decode cX1_minutesBy 76 = .ok (.invokestatic 75, 3) := dq184 bw_cX1_minutesBy_3 4 rfl rfl rfl
theorem dX1_minutesBy_79 : decode cX1_minutesBy 79 = .ok (.ireturn, 1) := dq172 bw_cX1_minutesBy_3 7 rfl rfl
theorem bw_cX1_bestOn_0 : dq_w cX1_bestOn 0 [18, 64, 54, 4, 3, 54, 5, 21, 5, 42, 180, 0, 15, 162, 0, 73, 28, 21, 5, 122, 4, 126, 154, 0, 58, 42, 180] = true := by decide +kernel
theorem dX1_bestOn_0 : decode cX1_bestOn 0 = .ok (.ldc 64, 2) := dq18 bw_cX1_bestOn_0 0 rfl rfl
theorem dX1_bestOn_2 : decode cX1_bestOn 2 = .ok (.istore 4, 2) := dq54 bw_cX1_bestOn_0 2 rfl rfl
theorem dX1_bestOn_4 : decode cX1_bestOn 4 = .ok (.iconst 0, 1) := dq3 bw_cX1_bestOn_0 4 rfl rfl
theorem dX1_bestOn_5 : decode cX1_bestOn 5 = .ok (.istore 5, 2) := dq54 bw_cX1_bestOn_0 5 rfl rfl
theorem dX1_bestOn_7 : decode cX1_bestOn 7 = .ok (.iload 5, 2) := dq21 bw_cX1_bestOn_0 7 rfl rfl
theorem dX1_bestOn_9 : decode cX1_bestOn 9 = .ok (.aload_n 0, 1) := dq42 bw_cX1_bestOn_0 9 rfl rfl
theorem dX1_bestOn_10 : decode cX1_bestOn 10 = .ok (.getfield 15, 3) := dq180 bw_cX1_bestOn_0 10 rfl rfl rfl
theorem dX1_bestOn_13 : decode cX1_bestOn 13 = .ok (.if_icmp .ge 73, 3) := dq162 bw_cX1_bestOn_0 13 rfl rfl rfl
theorem dX1_bestOn_16 : decode cX1_bestOn 16 = .ok (.iload_n 2, 1) := dq28 bw_cX1_bestOn_0 16 rfl rfl
theorem dX1_bestOn_17 : decode cX1_bestOn 17 = .ok (.iload 5, 2) := dq21 bw_cX1_bestOn_0 17 rfl rfl
theorem dX1_bestOn_19 : decode cX1_bestOn 19 = .ok (.ishr, 1) := dq122 bw_cX1_bestOn_0 19 rfl rfl
theorem dX1_bestOn_20 : decode cX1_bestOn 20 = .ok (.iconst 1, 1) := dq4 bw_cX1_bestOn_0 20 rfl rfl
theorem dX1_bestOn_21 : decode cX1_bestOn 21 = .ok (.iand, 1) := dq126 bw_cX1_bestOn_0 21 rfl rfl
theorem dX1_bestOn_22 : decode cX1_bestOn 22 = .ok (.ifCond .ne 58, 3) := dq154 bw_cX1_bestOn_0 22 rfl rfl rfl
theorem bw_cX1_bestOn_1 : dq_w cX1_bestOn 24 [58, 42, 180, 0, 9, 21, 5, 46, 54, 6, 21, 4, 42, 43, 28, 29, 21, 5, 43, 180, 0, 65, 21, 6, 46, 182, 0] = true := by decide +kernel
theorem dX1_bestOn_25 : decode cX1_bestOn 25 = .ok (.aload_n 0, 1) := dq42 bw_cX1_bestOn_1 1 rfl rfl
theorem dX1_bestOn_26 : decode cX1_bestOn 26 = .ok (.getfield 9, 3) := dq180 bw_cX1_bestOn_1 2 rfl rfl rfl
theorem dX1_bestOn_29 : decode cX1_bestOn 29 = .ok (.iload 5, 2) := dq21 bw_cX1_bestOn_1 5 rfl rfl
theorem dX1_bestOn_31 : decode cX1_bestOn 31 = .ok (.iaload, 1) := dq46 bw_cX1_bestOn_1 7 rfl rfl
theorem dX1_bestOn_32 : decode cX1_bestOn 32 = .ok (.istore 6, 2) := dq54 bw_cX1_bestOn_1 8 rfl rfl
theorem dX1_bestOn_34 : decode cX1_bestOn 34 = .ok (.iload 4, 2) := dq21 bw_cX1_bestOn_1 10 rfl rfl
theorem dX1_bestOn_36 : decode cX1_bestOn 36 = .ok (.aload_n 0, 1) := dq42 bw_cX1_bestOn_1 12 rfl rfl
theorem dX1_bestOn_37 : decode cX1_bestOn 37 = .ok (.aload_n 1, 1) := dq43 bw_cX1_bestOn_1 13 rfl rfl
theorem dX1_bestOn_38 : decode cX1_bestOn 38 = .ok (.iload_n 2, 1) := dq28 bw_cX1_bestOn_1 14 rfl rfl
theorem dX1_bestOn_39 : decode cX1_bestOn 39 = .ok (.iload_n 3, 1) := dq29 bw_cX1_bestOn_1 15 rfl rfl
theorem dX1_bestOn_40 : decode cX1_bestOn 40 = .ok (.iload 5, 2) := dq21 bw_cX1_bestOn_1 16 rfl rfl
theorem dX1_bestOn_42 : decode cX1_bestOn 42 = .ok (.aload_n 1, 1) := dq43 bw_cX1_bestOn_1 18 rfl rfl
theorem dX1_bestOn_43 : decode cX1_bestOn 43 = .ok (.getfield 65, 3) := dq180 bw_cX1_bestOn_1 19 rfl rfl rfl
theorem dX1_bestOn_46 : decode cX1_bestOn 46 = .ok (.iload 6, 2) := dq21 bw_cX1_bestOn_1 22 rfl rfl
theorem bw_cX1_bestOn_2 : dq_w cX1_bestOn 48 [46, 182, 0, 103, 184, 0, 75, 54, 4, 21, 4, 42, 43, 28, 29, 21, 5, 43, 180, 0, 68, 21, 6, 46, 182, 0, 103] = true := by decide +kernel
theorem dX1_bestOn_48 : decode cX1_bestOn 48 = .ok (.iaload, 1) := dq46 bw_cX1_bestOn_2 0 rfl rfl
theorem dX1_bestOn_49 : decode cX1_bestOn 49 = .ok (.invokevirtual 103, 3) := dq182 bw_cX1_bestOn_2 1 rfl rfl rfl
theorem dX1_bestOn_52 : decode cX1_bestOn 52 = .ok (.invokestatic 75, 3) := dq184 bw_cX1_bestOn_2 4 rfl rfl rfl
theorem dX1_bestOn_55 : decode cX1_bestOn 55 = .ok (.istore 4, 2) := dq54 bw_cX1_bestOn_2 7 rfl rfl
theorem dX1_bestOn_57 : decode cX1_bestOn 57 = .ok (.iload 4, 2) := dq21 bw_cX1_bestOn_2 9 rfl rfl
theorem dX1_bestOn_59 : decode cX1_bestOn 59 = .ok (.aload_n 0, 1) := dq42 bw_cX1_bestOn_2 11 rfl rfl
theorem dX1_bestOn_60 : decode cX1_bestOn 60 = .ok (.aload_n 1, 1) := dq43 bw_cX1_bestOn_2 12 rfl rfl
theorem dX1_bestOn_61 : decode cX1_bestOn 61 = .ok (.iload_n 2, 1) := dq28 bw_cX1_bestOn_2 13 rfl rfl
theorem dX1_bestOn_62 : decode cX1_bestOn 62 = .ok (.iload_n 3, 1) := dq29 bw_cX1_bestOn_2 14 rfl rfl
theorem dX1_bestOn_63 : decode cX1_bestOn 63 = .ok (.iload 5, 2) := dq21 bw_cX1_bestOn_2 15 rfl rfl
theorem dX1_bestOn_65 : decode cX1_bestOn 65 = .ok (.aload_n 1, 1) := dq43 bw_cX1_bestOn_2 17 rfl rfl
theorem dX1_bestOn_66 : decode cX1_bestOn 66 = .ok (.getfield 68, 3) := dq180 bw_cX1_bestOn_2 18 rfl rfl rfl
theorem dX1_bestOn_69 : decode cX1_bestOn 69 = .ok (.iload 6, 2) := dq21 bw_cX1_bestOn_2 21 rfl rfl
theorem dX1_bestOn_71 : decode cX1_bestOn 71 = .ok (.iaload, 1) := dq46 bw_cX1_bestOn_2 23 rfl rfl
theorem bw_cX1_bestOn_3 : dq_w cX1_bestOn 72 [182, 0, 103, 184, 0, 75, 54, 4, 132, 5, 1, 167, 255, 180, 21, 4, 172] = true := by decide +kernel
theorem dX1_bestOn_72 : decode cX1_bestOn 72 = .ok (.invokevirtual 103, 3) := dq182 bw_cX1_bestOn_3 0 rfl rfl rfl
theorem dX1_bestOn_75 : decode cX1_bestOn 75 = .ok (.invokestatic 75, 3) := dq184 bw_cX1_bestOn_3 3 rfl rfl rfl
theorem dX1_bestOn_78 : decode cX1_bestOn 78 = .ok (.istore 4, 2) := dq54 bw_cX1_bestOn_3 6 rfl rfl
theorem dX1_bestOn_80 : decode cX1_bestOn 80 = .ok (.iinc 5 1, 3) := dq132 bw_cX1_bestOn_3 8 rfl rfl rfl
theorem dX1_bestOn_83 : decode cX1_bestOn 83 = .ok (.goto (-76), 3) := dq167 bw_cX1_bestOn_3 11 rfl rfl rfl
theorem dX1_bestOn_86 : decode cX1_bestOn 86 = .ok (.iload 4, 2) := dq21 bw_cX1_bestOn_3 14 rfl rfl
theorem dX1_bestOn_88 : decode cX1_bestOn 88 = .ok (.ireturn, 1) := dq172 bw_cX1_bestOn_3 16 rfl rfl
theorem bw_cX1_fewestMinutes_0 : dq_w cX1_fewestMinutes 0 [4, 42, 180, 0, 15, 120, 4, 100, 62, 42, 43, 28, 29, 182, 0, 80, 184, 0, 84, 4, 159, 0, 5, 2, 172, 29, 54] = true := by decide +kernel
theorem dX1_fewestMinutes_0 : decode cX1_fewestMinutes 0 = .ok (.iconst 1, 1) := dq4 bw_cX1_fewestMinutes_0 0 rfl rfl
theorem dX1_fewestMinutes_1 : decode cX1_fewestMinutes 1 = .ok (.aload_n 0, 1) := dq42 bw_cX1_fewestMinutes_0 1 rfl rfl
theorem dX1_fewestMinutes_2 : decode cX1_fewestMinutes 2 = .ok (.getfield 15, 3) := dq180 bw_cX1_fewestMinutes_0 2 rfl rfl rfl
theorem dX1_fewestMinutes_5 : decode cX1_fewestMinutes 5 = .ok (.ishl, 1) := dq120 bw_cX1_fewestMinutes_0 5 rfl rfl
theorem dX1_fewestMinutes_6 : decode cX1_fewestMinutes 6 = .ok (.iconst 1, 1) := dq4 bw_cX1_fewestMinutes_0 6 rfl rfl
theorem dX1_fewestMinutes_7 : decode cX1_fewestMinutes 7 = .ok (.isub, 1) := dq100 bw_cX1_fewestMinutes_0 7 rfl rfl
theorem dX1_fewestMinutes_8 : decode cX1_fewestMinutes 8 = .ok (.istore_n 3, 1) := dq62 bw_cX1_fewestMinutes_0 8 rfl rfl
theorem dX1_fewestMinutes_9 : decode cX1_fewestMinutes 9 = .ok (.aload_n 0, 1) := dq42 bw_cX1_fewestMinutes_0 9 rfl rfl
theorem dX1_fewestMinutes_10 : decode cX1_fewestMinutes 10 = .ok (.aload_n 1, 1) := dq43 bw_cX1_fewestMinutes_0 10 rfl rfl
theorem dX1_fewestMinutes_11 : decode cX1_fewestMinutes 11 = .ok (.iload_n 2, 1) := dq28 bw_cX1_fewestMinutes_0 11 rfl rfl
theorem dX1_fewestMinutes_12 : decode cX1_fewestMinutes 12 = .ok (.iload_n 3, 1) := dq29 bw_cX1_fewestMinutes_0 12 rfl rfl
theorem dX1_fewestMinutes_13 : decode cX1_fewestMinutes 13 = .ok (.invokevirtual 80, 3) := dq182 bw_cX1_fewestMinutes_0 13 rfl rfl rfl
theorem dX1_fewestMinutes_16 : decode cX1_fewestMinutes 16 = .ok (.invokestatic 84, 3) := dq184 bw_cX1_fewestMinutes_0 16 rfl rfl rfl
theorem dX1_fewestMinutes_19 : decode cX1_fewestMinutes 19 = .ok (.iconst 1, 1) := dq4 bw_cX1_fewestMinutes_0 19 rfl rfl
theorem dX1_fewestMinutes_20 : decode cX1_fewestMinutes 20 = .ok (.if_icmp .eq 5, 3) := dq159 bw_cX1_fewestMinutes_0 20 rfl rfl rfl
theorem dX1_fewestMinutes_23 : decode cX1_fewestMinutes 23 = .ok (.iconst (-1), 1) := dq2 bw_cX1_fewestMinutes_0 23 rfl rfl
theorem bw_cX1_fewestMinutes_1 : dq_w cX1_fewestMinutes 24 [172, 29, 54, 4, 21, 4, 155, 0, 83, 42, 43, 28, 21, 4, 182, 0, 80, 54, 5, 3, 54, 6, 21, 6, 43, 180, 0] = true := by decide +kernel
theorem dX1_fewestMinutes_24 : decode cX1_fewestMinutes 24 = .ok (.ireturn, 1) := dq172 bw_cX1_fewestMinutes_1 0 rfl rfl
theorem dX1_fewestMinutes_25 : decode cX1_fewestMinutes 25 = .ok (.iload_n 3, 1) := dq29 bw_cX1_fewestMinutes_1 1 rfl rfl
theorem dX1_fewestMinutes_26 : decode cX1_fewestMinutes 26 = .ok (.istore 4, 2) := dq54 bw_cX1_fewestMinutes_1 2 rfl rfl
theorem dX1_fewestMinutes_28 : decode cX1_fewestMinutes 28 = .ok (.iload 4, 2) := dq21 bw_cX1_fewestMinutes_1 4 rfl rfl
theorem dX1_fewestMinutes_30 : decode cX1_fewestMinutes 30 = .ok (.ifCond .lt 83, 3) := dq155 bw_cX1_fewestMinutes_1 6 rfl rfl rfl
theorem dX1_fewestMinutes_33 : decode cX1_fewestMinutes 33 = .ok (.aload_n 0, 1) := dq42 bw_cX1_fewestMinutes_1 9 rfl rfl
theorem dX1_fewestMinutes_34 : decode cX1_fewestMinutes 34 = .ok (.aload_n 1, 1) := dq43 bw_cX1_fewestMinutes_1 10 rfl rfl
theorem dX1_fewestMinutes_35 : decode cX1_fewestMinutes 35 = .ok (.iload_n 2, 1) := dq28 bw_cX1_fewestMinutes_1 11 rfl rfl
theorem dX1_fewestMinutes_36 : decode cX1_fewestMinutes 36 = .ok (.iload 4, 2) := dq21 bw_cX1_fewestMinutes_1 12 rfl rfl
theorem dX1_fewestMinutes_38 : decode cX1_fewestMinutes 38 = .ok (.invokevirtual 80, 3) := dq182 bw_cX1_fewestMinutes_1 14 rfl rfl rfl
theorem dX1_fewestMinutes_41 : decode cX1_fewestMinutes 41 = .ok (.istore 5, 2) := dq54 bw_cX1_fewestMinutes_1 17 rfl rfl
theorem dX1_fewestMinutes_43 : decode cX1_fewestMinutes 43 = .ok (.iconst 0, 1) := dq3 bw_cX1_fewestMinutes_1 19 rfl rfl
theorem dX1_fewestMinutes_44 : decode cX1_fewestMinutes 44 = .ok (.istore 6, 2) := dq54 bw_cX1_fewestMinutes_1 20 rfl rfl
theorem dX1_fewestMinutes_46 : decode cX1_fewestMinutes 46 = .ok (.iload 6, 2) := dq21 bw_cX1_fewestMinutes_1 22 rfl rfl
theorem bw_cX1_fewestMinutes_2 : dq_w cX1_fewestMinutes 48 [43, 180, 0, 58, 162, 0, 55, 42, 180, 0, 22, 21, 6, 46, 21, 5, 160, 0, 37, 42, 180, 0, 38, 42, 21, 4, 21] = true := by decide +kernel
theorem dX1_fewestMinutes_48 : decode cX1_fewestMinutes 48 = .ok (.aload_n 1, 1) := dq43 bw_cX1_fewestMinutes_2 0 rfl rfl
theorem dX1_fewestMinutes_49 : decode cX1_fewestMinutes 49 = .ok (.getfield 58, 3) := dq180 bw_cX1_fewestMinutes_2 1 rfl rfl rfl
theorem dX1_fewestMinutes_52 : decode cX1_fewestMinutes 52 = .ok (.if_icmp .ge 55, 3) := dq162 bw_cX1_fewestMinutes_2 4 rfl rfl rfl
theorem dX1_fewestMinutes_55 : decode cX1_fewestMinutes 55 = .ok (.aload_n 0, 1) := dq42 bw_cX1_fewestMinutes_2 7 rfl rfl
theorem dX1_fewestMinutes_56 : decode cX1_fewestMinutes 56 = .ok (.getfield 22, 3) := dq180 bw_cX1_fewestMinutes_2 8 rfl rfl rfl
theorem dX1_fewestMinutes_59 : decode cX1_fewestMinutes 59 = .ok (.iload 6, 2) := dq21 bw_cX1_fewestMinutes_2 11 rfl rfl
theorem dX1_fewestMinutes_61 : decode cX1_fewestMinutes 61 = .ok (.iaload, 1) := dq46 bw_cX1_fewestMinutes_2 13 rfl rfl
theorem dX1_fewestMinutes_62 : decode cX1_fewestMinutes 62 = .ok (.iload 5, 2) := dq21 bw_cX1_fewestMinutes_2 14 rfl rfl
theorem dX1_fewestMinutes_64 : decode cX1_fewestMinutes 64 = .ok (.if_icmp .ne 37, 3) := dq160 bw_cX1_fewestMinutes_2 16 rfl rfl rfl
theorem dX1_fewestMinutes_67 : decode cX1_fewestMinutes 67 = .ok (.aload_n 0, 1) := dq42 bw_cX1_fewestMinutes_2 19 rfl rfl
theorem dX1_fewestMinutes_68 : decode cX1_fewestMinutes 68 = .ok (.getfield 38, 3) := dq180 bw_cX1_fewestMinutes_2 20 rfl rfl rfl
theorem dX1_fewestMinutes_71 : decode cX1_fewestMinutes 71 = .ok (.aload_n 0, 1) := dq42 bw_cX1_fewestMinutes_2 23 rfl rfl
theorem bw_cX1_fewestMinutes_3 : dq_w cX1_fewestMinutes 72 [21, 4, 21, 6, 182, 0, 90, 21, 4, 29, 160, 0, 7, 3, 167, 0, 12, 42, 43, 21, 4, 21, 6, 182, 0, 93, 182] = true := by decide +kernel
theorem dX1_fewestMinutes_72 : decode cX1_fewestMinutes 72 = .ok (.iload 4, 2) := dq21 bw_cX1_fewestMinutes_3 0 rfl rfl
theorem dX1_fewestMinutes_74 : decode cX1_fewestMinutes 74 = .ok (.iload 6, 2) := dq21 bw_cX1_fewestMinutes_3 2 rfl rfl
theorem dX1_fewestMinutes_76 : decode cX1_fewestMinutes 76 = .ok (.invokevirtual 90, 3) := dq182 bw_cX1_fewestMinutes_3 4 rfl rfl rfl
theorem dX1_fewestMinutes_79 : decode cX1_fewestMinutes 79 = .ok (.iload 4, 2) := dq21 bw_cX1_fewestMinutes_3 7 rfl rfl
theorem dX1_fewestMinutes_81 : decode cX1_fewestMinutes 81 = .ok (.iload_n 3, 1) := dq29 bw_cX1_fewestMinutes_3 9 rfl rfl
theorem dX1_fewestMinutes_82 : decode cX1_fewestMinutes 82 = .ok (.if_icmp .ne 7, 3) := dq160 bw_cX1_fewestMinutes_3 10 rfl rfl rfl
theorem dX1_fewestMinutes_85 : decode cX1_fewestMinutes 85 = .ok (.iconst 0, 1) := dq3 bw_cX1_fewestMinutes_3 13 rfl rfl
theorem dX1_fewestMinutes_86 : decode cX1_fewestMinutes 86 = .ok (.goto 12, 3) := dq167 bw_cX1_fewestMinutes_3 14 rfl rfl rfl
theorem dX1_fewestMinutes_89 : decode cX1_fewestMinutes 89 = .ok (.aload_n 0, 1) := dq42 bw_cX1_fewestMinutes_3 17 rfl rfl
theorem dX1_fewestMinutes_90 : decode cX1_fewestMinutes 90 = .ok (.aload_n 1, 1) := dq43 bw_cX1_fewestMinutes_3 18 rfl rfl
theorem dX1_fewestMinutes_91 : decode cX1_fewestMinutes 91 = .ok (.iload 4, 2) := dq21 bw_cX1_fewestMinutes_3 19 rfl rfl
theorem dX1_fewestMinutes_93 : decode cX1_fewestMinutes 93 = .ok (.iload 6, 2) := dq21 bw_cX1_fewestMinutes_3 21 rfl rfl
theorem dX1_fewestMinutes_95 : decode cX1_fewestMinutes 95 = .ok (.invokevirtual 93, 3) := dq182 bw_cX1_fewestMinutes_3 23 rfl rfl rfl
theorem bw_cX1_fewestMinutes_4 : dq_w cX1_fewestMinutes 96 [0, 93, 182, 0, 96, 132, 6, 1, 167, 255, 198, 132, 4, 255, 167, 255, 174, 42, 180, 0, 38, 42, 3, 28, 182, 0, 90] = true := by decide +kernel
theorem dX1_fewestMinutes_98 : decode cX1_fewestMinutes 98 = .ok (.invokevirtual 96, 3) := dq182 bw_cX1_fewestMinutes_4 2 rfl rfl rfl
theorem dX1_fewestMinutes_101 : decode cX1_fewestMinutes 101 = .ok (.iinc 6 1, 3) := dq132 bw_cX1_fewestMinutes_4 5 rfl rfl rfl
theorem dX1_fewestMinutes_104 : decode cX1_fewestMinutes 104 = .ok (.goto (-58), 3) := dq167 bw_cX1_fewestMinutes_4 8 rfl rfl rfl
theorem dX1_fewestMinutes_107 : decode cX1_fewestMinutes 107 = .ok (.iinc 4 (-1), 3) := dq132 bw_cX1_fewestMinutes_4 11 rfl rfl rfl
theorem dX1_fewestMinutes_110 : decode cX1_fewestMinutes 110 = .ok (.goto (-82), 3) := dq167 bw_cX1_fewestMinutes_4 14 rfl rfl rfl
theorem dX1_fewestMinutes_113 : decode cX1_fewestMinutes 113 = .ok (.aload_n 0, 1) := dq42 bw_cX1_fewestMinutes_4 17 rfl rfl
theorem dX1_fewestMinutes_114 : decode cX1_fewestMinutes 114 = .ok (.getfield 38, 3) := dq180 bw_cX1_fewestMinutes_4 18 rfl rfl rfl
theorem dX1_fewestMinutes_117 : decode cX1_fewestMinutes 117 = .ok (.aload_n 0, 1) := dq42 bw_cX1_fewestMinutes_4 21 rfl rfl
theorem dX1_fewestMinutes_118 : decode cX1_fewestMinutes 118 = .ok (.iconst 0, 1) := dq3 bw_cX1_fewestMinutes_4 22 rfl rfl
theorem dX1_fewestMinutes_119 : decode cX1_fewestMinutes 119 = .ok (.iload_n 2, 1) := dq28 bw_cX1_fewestMinutes_4 23 rfl rfl
theorem bw_cX1_fewestMinutes_5 : dq_w cX1_fewestMinutes 120 [182, 0, 90, 182, 0, 100, 54, 4, 21, 4, 18, 64, 162, 0, 8, 21, 4, 167, 0, 4, 2, 172] = true := by decide +kernel
theorem dX1_fewestMinutes_120 : decode cX1_fewestMinutes 120 = .ok (.invokevirtual 90, 3) := dq182 bw_cX1_fewestMinutes_5 0 rfl rfl rfl
theorem dX1_fewestMinutes_123 : decode cX1_fewestMinutes 123 = .ok (.invokevirtual 100, 3) := dq182 bw_cX1_fewestMinutes_5 3 rfl rfl rfl
theorem dX1_fewestMinutes_126 : decode cX1_fewestMinutes 126 = .ok (.istore 4, 2) := dq54 bw_cX1_fewestMinutes_5 6 rfl rfl
theorem dX1_fewestMinutes_128 : decode cX1_fewestMinutes 128 = .ok (.iload 4, 2) := dq21 bw_cX1_fewestMinutes_5 8 rfl rfl
theorem dX1_fewestMinutes_130 : decode cX1_fewestMinutes 130 = .ok (.ldc 64, 2) := dq18 bw_cX1_fewestMinutes_5 10 rfl rfl
theorem dX1_fewestMinutes_132 : decode cX1_fewestMinutes 132 = .ok (.if_icmp .ge 8, 3) := dq162 bw_cX1_fewestMinutes_5 12 rfl rfl rfl
theorem dX1_fewestMinutes_135 : decode cX1_fewestMinutes 135 = .ok (.iload 4, 2) := dq21 bw_cX1_fewestMinutes_5 15 rfl rfl
theorem dX1_fewestMinutes_137 : decode cX1_fewestMinutes 137 = .ok (.goto 4, 3) := dq167 bw_cX1_fewestMinutes_5 17 rfl rfl rfl
theorem dX1_fewestMinutes_140 : decode cX1_fewestMinutes 140 = .ok (.iconst (-1), 1) := dq2 bw_cX1_fewestMinutes_5 20 rfl rfl
theorem dX1_fewestMinutes_141 : decode cX1_fewestMinutes 141 = .ok (.ireturn, 1) := dq172 bw_cX1_fewestMinutes_5 21 rfl rfl
theorem bw_cX1_endsOfBest_0 : dq_w cX1_endsOfBest 0 [42, 180, 0, 9, 21, 4, 46, 54, 5, 3, 54, 6, 3, 54, 7, 21, 7, 43, 180, 0, 58, 162, 0, 106, 29, 21, 7] = true := by decide +kernel
theorem dX1_endsOfBest_0 : decode cX1_endsOfBest 0 = .ok (.aload_n 0, 1) := dq42 bw_cX1_endsOfBest_0 0 rfl rfl
theorem dX1_endsOfBest_1 : decode cX1_endsOfBest 1 = .ok (.getfield 9, 3) := dq180 bw_cX1_endsOfBest_0 1 rfl rfl rfl
theorem dX1_endsOfBest_4 : decode cX1_endsOfBest 4 = .ok (.iload 4, 2) := dq21 bw_cX1_endsOfBest_0 4 rfl rfl
theorem dX1_endsOfBest_6 : decode cX1_endsOfBest 6 = .ok (.iaload, 1) := dq46 bw_cX1_endsOfBest_0 6 rfl rfl
theorem dX1_endsOfBest_7 : decode cX1_endsOfBest 7 = .ok (.istore 5, 2) := dq54 bw_cX1_endsOfBest_0 7 rfl rfl
theorem dX1_endsOfBest_9 : decode cX1_endsOfBest 9 = .ok (.iconst 0, 1) := dq3 bw_cX1_endsOfBest_0 9 rfl rfl
theorem dX1_endsOfBest_10 : decode cX1_endsOfBest 10 = .ok (.istore 6, 2) := dq54 bw_cX1_endsOfBest_0 10 rfl rfl
theorem dX1_endsOfBest_12 : decode cX1_endsOfBest 12 = .ok (.iconst 0, 1) := dq3 bw_cX1_endsOfBest_0 12 rfl rfl
theorem dX1_endsOfBest_13 : decode cX1_endsOfBest 13 = .ok (.istore 7, 2) := dq54 bw_cX1_endsOfBest_0 13 rfl rfl
theorem dX1_endsOfBest_15 : decode cX1_endsOfBest 15 = .ok (.iload 7, 2) := dq21 bw_cX1_endsOfBest_0 15 rfl rfl
theorem dX1_endsOfBest_17 : decode cX1_endsOfBest 17 = .ok (.aload_n 1, 1) := dq43 bw_cX1_endsOfBest_0 17 rfl rfl
theorem dX1_endsOfBest_18 : decode cX1_endsOfBest 18 = .ok (.getfield 58, 3) := dq180 bw_cX1_endsOfBest_0 18 rfl rfl rfl
theorem dX1_endsOfBest_21 : decode cX1_endsOfBest 21 = .ok (.if_icmp .ge 106, 3) := dq162 bw_cX1_endsOfBest_0 21 rfl rfl rfl
theorem bw_cX1_endsOfBest_1 : dq_w cX1_endsOfBest 24 [29, 21, 7, 122, 4, 126, 153, 0, 91, 42, 180, 0, 38, 42, 28, 21, 7, 182, 0, 90, 182, 0, 100, 54, 8, 42, 43] = true := by decide +kernel
theorem dX1_endsOfBest_24 : decode cX1_endsOfBest 24 = .ok (.iload_n 3, 1) := dq29 bw_cX1_endsOfBest_1 0 rfl rfl
theorem dX1_endsOfBest_25 : decode cX1_endsOfBest 25 = .ok (.iload 7, 2) := dq21 bw_cX1_endsOfBest_1 1 rfl rfl
theorem dX1_endsOfBest_27 : decode cX1_endsOfBest 27 = .ok (.ishr, 1) := dq122 bw_cX1_endsOfBest_1 3 rfl rfl
theorem dX1_endsOfBest_28 : decode cX1_endsOfBest 28 = .ok (.iconst 1, 1) := dq4 bw_cX1_endsOfBest_1 4 rfl rfl
theorem dX1_endsOfBest_29 : decode cX1_endsOfBest 29 = .ok (.iand, 1) := dq126 bw_cX1_endsOfBest_1 5 rfl rfl
theorem dX1_endsOfBest_30 : decode cX1_endsOfBest 30 = .ok (.ifCond .eq 91, 3) := dq153 bw_cX1_endsOfBest_1 6 rfl rfl rfl
theorem dX1_endsOfBest_33 : decode cX1_endsOfBest 33 = .ok (.aload_n 0, 1) := dq42 bw_cX1_endsOfBest_1 9 rfl rfl
theorem dX1_endsOfBest_34 : decode cX1_endsOfBest 34 = .ok (.getfield 38, 3) := dq180 bw_cX1_endsOfBest_1 10 rfl rfl rfl
theorem dX1_endsOfBest_37 : decode cX1_endsOfBest 37 = .ok (.aload_n 0, 1) := dq42 bw_cX1_endsOfBest_1 13 rfl rfl
theorem dX1_endsOfBest_38 : decode cX1_endsOfBest 38 = .ok (.iload_n 2, 1) := dq28 bw_cX1_endsOfBest_1 14 rfl rfl
theorem dX1_endsOfBest_39 : decode cX1_endsOfBest 39 = .ok (.iload 7, 2) := dq21 bw_cX1_endsOfBest_1 15 rfl rfl
theorem dX1_endsOfBest_41 : decode cX1_endsOfBest 41 = .ok (.invokevirtual 90, 3) := dq182 bw_cX1_endsOfBest_1 17 rfl rfl rfl
theorem dX1_endsOfBest_44 : decode cX1_endsOfBest 44 = .ok (.invokevirtual 100, 3) := dq182 bw_cX1_endsOfBest_1 20 rfl rfl rfl
theorem dX1_endsOfBest_47 : decode cX1_endsOfBest 47 = .ok (.istore 8, 2) := dq54 bw_cX1_endsOfBest_1 23 rfl rfl
theorem bw_cX1_endsOfBest_2 : dq_w cX1_endsOfBest 48 [8, 42, 43, 28, 21, 7, 21, 4, 43, 180, 0, 65, 21, 5, 46, 182, 0, 103, 21, 8, 160, 0, 17, 21, 6, 4, 43] = true := by decide +kernel
theorem dX1_endsOfBest_49 : decode cX1_endsOfBest 49 = .ok (.aload_n 0, 1) := dq42 bw_cX1_endsOfBest_2 1 rfl rfl
theorem dX1_endsOfBest_50 : decode cX1_endsOfBest 50 = .ok (.aload_n 1, 1) := dq43 bw_cX1_endsOfBest_2 2 rfl rfl
theorem dX1_endsOfBest_51 : decode cX1_endsOfBest 51 = .ok (.iload_n 2, 1) := dq28 bw_cX1_endsOfBest_2 3 rfl rfl
theorem dX1_endsOfBest_52 : decode cX1_endsOfBest 52 = .ok (.iload 7, 2) := dq21 bw_cX1_endsOfBest_2 4 rfl rfl
theorem dX1_endsOfBest_54 : decode cX1_endsOfBest 54 = .ok (.iload 4, 2) := dq21 bw_cX1_endsOfBest_2 6 rfl rfl
theorem dX1_endsOfBest_56 : decode cX1_endsOfBest 56 = .ok (.aload_n 1, 1) := dq43 bw_cX1_endsOfBest_2 8 rfl rfl
theorem dX1_endsOfBest_57 : decode cX1_endsOfBest 57 = .ok (.getfield 65, 3) := dq180 bw_cX1_endsOfBest_2 9 rfl rfl rfl
theorem dX1_endsOfBest_60 : decode cX1_endsOfBest 60 = .ok (.iload 5, 2) := dq21 bw_cX1_endsOfBest_2 12 rfl rfl
theorem dX1_endsOfBest_62 : decode cX1_endsOfBest 62 = .ok (.iaload, 1) := dq46 bw_cX1_endsOfBest_2 14 rfl rfl
theorem dX1_endsOfBest_63 : decode cX1_endsOfBest 63 = .ok (.invokevirtual 103, 3) := dq182 bw_cX1_endsOfBest_2 15 rfl rfl rfl
theorem dX1_endsOfBest_66 : decode cX1_endsOfBest 66 = .ok (.iload 8, 2) := dq21 bw_cX1_endsOfBest_2 18 rfl rfl
theorem dX1_endsOfBest_68 : decode cX1_endsOfBest 68 = .ok (.if_icmp .ne 17, 3) := dq160 bw_cX1_endsOfBest_2 20 rfl rfl rfl
theorem dX1_endsOfBest_71 : decode cX1_endsOfBest 71 = .ok (.iload 6, 2) := dq21 bw_cX1_endsOfBest_2 23 rfl rfl
theorem bw_cX1_endsOfBest_3 : dq_w cX1_endsOfBest 72 [6, 4, 43, 180, 0, 68, 21, 5, 46, 120, 128, 54, 6, 42, 43, 28, 21, 7, 21, 4, 43, 180, 0, 68, 21, 5, 46] = true := by decide +kernel
theorem dX1_endsOfBest_73 : decode cX1_endsOfBest 73 = .ok (.iconst 1, 1) := dq4 bw_cX1_endsOfBest_3 1 rfl rfl
theorem dX1_endsOfBest_74 : decode cX1_endsOfBest 74 = .ok (.aload_n 1, 1) := dq43 bw_cX1_endsOfBest_3 2 rfl rfl
theorem dX1_endsOfBest_75 : decode cX1_endsOfBest 75 = .ok (.getfield 68, 3) := dq180 bw_cX1_endsOfBest_3 3 rfl rfl rfl
theorem dX1_endsOfBest_78 : decode cX1_endsOfBest 78 = .ok (.iload 5, 2) := dq21 bw_cX1_endsOfBest_3 6 rfl rfl
theorem dX1_endsOfBest_80 : decode cX1_endsOfBest 80 = .ok (.iaload, 1) := dq46 bw_cX1_endsOfBest_3 8 rfl rfl
theorem dX1_endsOfBest_81 : decode cX1_endsOfBest 81 = .ok (.ishl, 1) := dq120 bw_cX1_endsOfBest_3 9 rfl rfl
theorem dX1_endsOfBest_82 : decode cX1_endsOfBest 82 = .ok (.ior, 1) := dq128 bw_cX1_endsOfBest_3 10 rfl rfl
theorem dX1_endsOfBest_83 : decode cX1_endsOfBest 83 = .ok (.istore 6, 2) := dq54 bw_cX1_endsOfBest_3 11 rfl rfl
theorem dX1_endsOfBest_85 : decode cX1_endsOfBest 85 = .ok (.aload_n 0, 1) := dq42 bw_cX1_endsOfBest_3 13 rfl rfl
theorem dX1_endsOfBest_86 : decode cX1_endsOfBest 86 = .ok (.aload_n 1, 1) := dq43 bw_cX1_endsOfBest_3 14 rfl rfl
theorem dX1_endsOfBest_87 : decode cX1_endsOfBest 87 = .ok (.iload_n 2, 1) := dq28 bw_cX1_endsOfBest_3 15 rfl rfl
theorem dX1_endsOfBest_88 : decode cX1_endsOfBest 88 = .ok (.iload 7, 2) := dq21 bw_cX1_endsOfBest_3 16 rfl rfl
theorem dX1_endsOfBest_90 : decode cX1_endsOfBest 90 = .ok (.iload 4, 2) := dq21 bw_cX1_endsOfBest_3 18 rfl rfl
theorem dX1_endsOfBest_92 : decode cX1_endsOfBest 92 = .ok (.aload_n 1, 1) := dq43 bw_cX1_endsOfBest_3 20 rfl rfl
theorem dX1_endsOfBest_93 : decode cX1_endsOfBest 93 = .ok (.getfield 68, 3) := dq180 bw_cX1_endsOfBest_3 21 rfl rfl rfl
theorem bw_cX1_endsOfBest_4 : dq_w cX1_endsOfBest 96 [21, 5, 46, 182, 0, 103, 21, 8, 160, 0, 17, 21, 6, 4, 43, 180, 0, 65, 21, 5, 46, 120, 128, 54, 6, 132, 7] = true := by decide +kernel
theorem dX1_endsOfBest_96 : decode cX1_endsOfBest 96 = .ok (.iload 5, 2) := dq21 bw_cX1_endsOfBest_4 0 rfl rfl
theorem dX1_endsOfBest_98 : decode cX1_endsOfBest 98 = .ok (.iaload, 1) := dq46 bw_cX1_endsOfBest_4 2 rfl rfl
theorem dX1_endsOfBest_99 : decode cX1_endsOfBest 99 = .ok (.invokevirtual 103, 3) := dq182 bw_cX1_endsOfBest_4 3 rfl rfl rfl
theorem dX1_endsOfBest_102 : decode cX1_endsOfBest 102 = .ok (.iload 8, 2) := dq21 bw_cX1_endsOfBest_4 6 rfl rfl
theorem dX1_endsOfBest_104 : decode cX1_endsOfBest 104 = .ok (.if_icmp .ne 17, 3) := dq160 bw_cX1_endsOfBest_4 8 rfl rfl rfl
theorem dX1_endsOfBest_107 : decode cX1_endsOfBest 107 = .ok (.iload 6, 2) := dq21 bw_cX1_endsOfBest_4 11 rfl rfl
theorem dX1_endsOfBest_109 : decode cX1_endsOfBest 109 = .ok (.iconst 1, 1) := dq4 bw_cX1_endsOfBest_4 13 rfl rfl
theorem dX1_endsOfBest_110 : decode cX1_endsOfBest 110 = .ok (.aload_n 1, 1) := dq43 bw_cX1_endsOfBest_4 14 rfl rfl
theorem dX1_endsOfBest_111 : decode cX1_endsOfBest 111 = .ok (.getfield 65, 3) := dq180 bw_cX1_endsOfBest_4 15 rfl rfl rfl
theorem dX1_endsOfBest_114 : decode cX1_endsOfBest 114 = .ok (.iload 5, 2) := dq21 bw_cX1_endsOfBest_4 18 rfl rfl
theorem dX1_endsOfBest_116 : decode cX1_endsOfBest 116 = .ok (.iaload, 1) := dq46 bw_cX1_endsOfBest_4 20 rfl rfl
theorem dX1_endsOfBest_117 : decode cX1_endsOfBest 117 = .ok (.ishl, 1) := dq120 bw_cX1_endsOfBest_4 21 rfl rfl
theorem dX1_endsOfBest_118 : decode cX1_endsOfBest 118 = .ok (.ior, 1) := dq128 bw_cX1_endsOfBest_4 22 rfl rfl
theorem dX1_endsOfBest_119 : decode cX1_endsOfBest 119 = .ok (.istore 6, 2) := dq54 bw_cX1_endsOfBest_4 23 rfl rfl
theorem bw_cX1_endsOfBest_5 : dq_w cX1_endsOfBest 120 [6, 132, 7, 1, 167, 255, 147, 21, 6, 172] = true := by decide +kernel
theorem dX1_endsOfBest_121 : decode cX1_endsOfBest 121 = .ok (.iinc 7 1, 3) := dq132 bw_cX1_endsOfBest_5 1 rfl rfl rfl
theorem dX1_endsOfBest_124 : decode cX1_endsOfBest 124 = .ok (.goto (-109), 3) := dq167 bw_cX1_endsOfBest_5 4 rfl rfl rfl
theorem dX1_endsOfBest_127 : decode cX1_endsOfBest 127 = .ok (.iload 6, 2) := dq21 bw_cX1_endsOfBest_5 7 rfl rfl
theorem dX1_endsOfBest_129 : decode cX1_endsOfBest 129 = .ok (.ireturn, 1) := dq172 bw_cX1_endsOfBest_5 9 rfl rfl
theorem bw_cX1_tellLeastOrder_0 : dq_w cX1_tellLeastOrder 0 [45, 182, 0, 110, 4, 28, 120, 54, 4, 3, 54, 5, 3, 54, 6, 21, 6, 42, 180, 0, 15, 162, 0, 94, 3, 54, 7] = true := by decide +kernel
theorem dX1_tellLeastOrder_0 : decode cX1_tellLeastOrder 0 = .ok (.aload_n 3, 1) := dq45 bw_cX1_tellLeastOrder_0 0 rfl rfl
theorem dX1_tellLeastOrder_1 : decode cX1_tellLeastOrder 1 = .ok (.invokevirtual 110, 3) := dq182 bw_cX1_tellLeastOrder_0 1 rfl rfl rfl
theorem dX1_tellLeastOrder_4 : decode cX1_tellLeastOrder 4 = .ok (.iconst 1, 1) := dq4 bw_cX1_tellLeastOrder_0 4 rfl rfl
theorem dX1_tellLeastOrder_5 : decode cX1_tellLeastOrder 5 = .ok (.iload_n 2, 1) := dq28 bw_cX1_tellLeastOrder_0 5 rfl rfl
theorem dX1_tellLeastOrder_6 : decode cX1_tellLeastOrder 6 = .ok (.ishl, 1) := dq120 bw_cX1_tellLeastOrder_0 6 rfl rfl
theorem dX1_tellLeastOrder_7 : decode cX1_tellLeastOrder 7 = .ok (.istore 4, 2) := dq54 bw_cX1_tellLeastOrder_0 7 rfl rfl
theorem dX1_tellLeastOrder_9 : decode cX1_tellLeastOrder 9 = .ok (.iconst 0, 1) := dq3 bw_cX1_tellLeastOrder_0 9 rfl rfl
theorem dX1_tellLeastOrder_10 : decode cX1_tellLeastOrder 10 = .ok (.istore 5, 2) := dq54 bw_cX1_tellLeastOrder_0 10 rfl rfl
theorem dX1_tellLeastOrder_12 : decode cX1_tellLeastOrder 12 = .ok (.iconst 0, 1) := dq3 bw_cX1_tellLeastOrder_0 12 rfl rfl
theorem dX1_tellLeastOrder_13 : decode cX1_tellLeastOrder 13 = .ok (.istore 6, 2) := dq54 bw_cX1_tellLeastOrder_0 13 rfl rfl
theorem dX1_tellLeastOrder_15 : decode cX1_tellLeastOrder 15 = .ok (.iload 6, 2) := dq21 bw_cX1_tellLeastOrder_0 15 rfl rfl
theorem dX1_tellLeastOrder_17 : decode cX1_tellLeastOrder 17 = .ok (.aload_n 0, 1) := dq42 bw_cX1_tellLeastOrder_0 17 rfl rfl
theorem dX1_tellLeastOrder_18 : decode cX1_tellLeastOrder 18 = .ok (.getfield 15, 3) := dq180 bw_cX1_tellLeastOrder_0 18 rfl rfl rfl
theorem dX1_tellLeastOrder_21 : decode cX1_tellLeastOrder 21 = .ok (.if_icmp .ge 94, 3) := dq162 bw_cX1_tellLeastOrder_0 21 rfl rfl rfl
theorem bw_cX1_tellLeastOrder_1 : dq_w cX1_tellLeastOrder 24 [3, 54, 7, 3, 54, 8, 21, 8, 42, 180, 0, 15, 162, 0, 73, 21, 7, 154, 0, 68, 21, 5, 21, 8, 122, 4, 126] = true := by decide +kernel
theorem dX1_tellLeastOrder_24 : decode cX1_tellLeastOrder 24 = .ok (.iconst 0, 1) := dq3 bw_cX1_tellLeastOrder_1 0 rfl rfl
theorem dX1_tellLeastOrder_25 : decode cX1_tellLeastOrder 25 = .ok (.istore 7, 2) := dq54 bw_cX1_tellLeastOrder_1 1 rfl rfl
theorem dX1_tellLeastOrder_27 : decode cX1_tellLeastOrder 27 = .ok (.iconst 0, 1) := dq3 bw_cX1_tellLeastOrder_1 3 rfl rfl
theorem dX1_tellLeastOrder_28 : decode cX1_tellLeastOrder 28 = .ok (.istore 8, 2) := dq54 bw_cX1_tellLeastOrder_1 4 rfl rfl
theorem dX1_tellLeastOrder_30 : decode cX1_tellLeastOrder 30 = .ok (.iload 8, 2) := dq21 bw_cX1_tellLeastOrder_1 6 rfl rfl
theorem dX1_tellLeastOrder_32 : decode cX1_tellLeastOrder 32 = .ok (.aload_n 0, 1) := dq42 bw_cX1_tellLeastOrder_1 8 rfl rfl
theorem dX1_tellLeastOrder_33 : decode cX1_tellLeastOrder 33 = .ok (.getfield 15, 3) := dq180 bw_cX1_tellLeastOrder_1 9 rfl rfl rfl
theorem dX1_tellLeastOrder_36 : decode cX1_tellLeastOrder 36 = .ok (.if_icmp .ge 73, 3) := dq162 bw_cX1_tellLeastOrder_1 12 rfl rfl rfl
theorem dX1_tellLeastOrder_39 : decode cX1_tellLeastOrder 39 = .ok (.iload 7, 2) := dq21 bw_cX1_tellLeastOrder_1 15 rfl rfl
theorem dX1_tellLeastOrder_41 : decode cX1_tellLeastOrder 41 = .ok (.ifCond .ne 68, 3) := dq154 bw_cX1_tellLeastOrder_1 17 rfl rfl rfl
theorem dX1_tellLeastOrder_44 : decode cX1_tellLeastOrder 44 = .ok (.iload 5, 2) := dq21 bw_cX1_tellLeastOrder_1 20 rfl rfl
theorem dX1_tellLeastOrder_46 : decode cX1_tellLeastOrder 46 = .ok (.iload 8, 2) := dq21 bw_cX1_tellLeastOrder_1 22 rfl rfl
theorem bw_cX1_tellLeastOrder_2 : dq_w cX1_tellLeastOrder 48 [122, 4, 126, 154, 0, 17, 42, 43, 21, 5, 21, 4, 21, 8, 182, 0, 115, 167, 0, 4, 3, 54, 9, 21, 9, 153, 0] = true := by decide +kernel
theorem dX1_tellLeastOrder_48 : decode cX1_tellLeastOrder 48 = .ok (.ishr, 1) := dq122 bw_cX1_tellLeastOrder_2 0 rfl rfl
theorem dX1_tellLeastOrder_49 : decode cX1_tellLeastOrder 49 = .ok (.iconst 1, 1) := dq4 bw_cX1_tellLeastOrder_2 1 rfl rfl
theorem dX1_tellLeastOrder_50 : decode cX1_tellLeastOrder 50 = .ok (.iand, 1) := dq126 bw_cX1_tellLeastOrder_2 2 rfl rfl
theorem dX1_tellLeastOrder_51 : decode cX1_tellLeastOrder 51 = .ok (.ifCond .ne 17, 3) := dq154 bw_cX1_tellLeastOrder_2 3 rfl rfl rfl
theorem dX1_tellLeastOrder_54 : decode cX1_tellLeastOrder 54 = .ok (.aload_n 0, 1) := dq42 bw_cX1_tellLeastOrder_2 6 rfl rfl
theorem dX1_tellLeastOrder_55 : decode cX1_tellLeastOrder 55 = .ok (.aload_n 1, 1) := dq43 bw_cX1_tellLeastOrder_2 7 rfl rfl
theorem dX1_tellLeastOrder_56 : decode cX1_tellLeastOrder 56 = .ok (.iload 5, 2) := dq21 bw_cX1_tellLeastOrder_2 8 rfl rfl
theorem dX1_tellLeastOrder_58 : decode cX1_tellLeastOrder 58 = .ok (.iload 4, 2) := dq21 bw_cX1_tellLeastOrder_2 10 rfl rfl
theorem dX1_tellLeastOrder_60 : decode cX1_tellLeastOrder 60 = .ok (.iload 8, 2) := dq21 bw_cX1_tellLeastOrder_2 12 rfl rfl
theorem dX1_tellLeastOrder_62 : decode cX1_tellLeastOrder 62 = .ok (.invokevirtual 115, 3) := dq182 bw_cX1_tellLeastOrder_2 14 rfl rfl rfl
theorem dX1_tellLeastOrder_65 : decode cX1_tellLeastOrder 65 = .ok (.goto 4, 3) := dq167 bw_cX1_tellLeastOrder_2 17 rfl rfl rfl
theorem dX1_tellLeastOrder_68 : decode cX1_tellLeastOrder 68 = .ok (.iconst 0, 1) := dq3 bw_cX1_tellLeastOrder_2 20 rfl rfl
theorem dX1_tellLeastOrder_69 : decode cX1_tellLeastOrder 69 = .ok (.istore 9, 2) := dq54 bw_cX1_tellLeastOrder_2 21 rfl rfl
theorem dX1_tellLeastOrder_71 : decode cX1_tellLeastOrder 71 = .ok (.iload 9, 2) := dq21 bw_cX1_tellLeastOrder_2 23 rfl rfl
theorem bw_cX1_tellLeastOrder_3 : dq_w cX1_tellLeastOrder 72 [9, 153, 0, 30, 4, 54, 7, 45, 42, 180, 0, 9, 21, 8, 46, 182, 0, 119, 21, 5, 4, 21, 8, 120, 128, 54, 5] = true := by decide +kernel
theorem dX1_tellLeastOrder_73 : decode cX1_tellLeastOrder 73 = .ok (.ifCond .eq 30, 3) := dq153 bw_cX1_tellLeastOrder_3 1 rfl rfl rfl
theorem dX1_tellLeastOrder_76 : decode cX1_tellLeastOrder 76 = .ok (.iconst 1, 1) := dq4 bw_cX1_tellLeastOrder_3 4 rfl rfl
theorem dX1_tellLeastOrder_77 : decode cX1_tellLeastOrder 77 = .ok (.istore 7, 2) := dq54 bw_cX1_tellLeastOrder_3 5 rfl rfl
theorem dX1_tellLeastOrder_79 : decode cX1_tellLeastOrder 79 = .ok (.aload_n 3, 1) := dq45 bw_cX1_tellLeastOrder_3 7 rfl rfl
theorem dX1_tellLeastOrder_80 : decode cX1_tellLeastOrder 80 = .ok (.aload_n 0, 1) := dq42 bw_cX1_tellLeastOrder_3 8 rfl rfl
theorem dX1_tellLeastOrder_81 : decode cX1_tellLeastOrder 81 = .ok (.getfield 9, 3) := dq180 bw_cX1_tellLeastOrder_3 9 rfl rfl rfl
theorem dX1_tellLeastOrder_84 : decode cX1_tellLeastOrder 84 = .ok (.iload 8, 2) := dq21 bw_cX1_tellLeastOrder_3 12 rfl rfl
theorem dX1_tellLeastOrder_86 : decode cX1_tellLeastOrder 86 = .ok (.iaload, 1) := dq46 bw_cX1_tellLeastOrder_3 14 rfl rfl
theorem dX1_tellLeastOrder_87 : decode cX1_tellLeastOrder 87 = .ok (.invokevirtual 119, 3) := dq182 bw_cX1_tellLeastOrder_3 15 rfl rfl rfl
theorem dX1_tellLeastOrder_90 : decode cX1_tellLeastOrder 90 = .ok (.iload 5, 2) := dq21 bw_cX1_tellLeastOrder_3 18 rfl rfl
theorem dX1_tellLeastOrder_92 : decode cX1_tellLeastOrder 92 = .ok (.iconst 1, 1) := dq4 bw_cX1_tellLeastOrder_3 20 rfl rfl
theorem dX1_tellLeastOrder_93 : decode cX1_tellLeastOrder 93 = .ok (.iload 8, 2) := dq21 bw_cX1_tellLeastOrder_3 21 rfl rfl
theorem dX1_tellLeastOrder_95 : decode cX1_tellLeastOrder 95 = .ok (.ishl, 1) := dq120 bw_cX1_tellLeastOrder_3 23 rfl rfl
theorem bw_cX1_tellLeastOrder_4 : dq_w cX1_tellLeastOrder 96 [128, 54, 5, 21, 9, 54, 4, 132, 8, 1, 167, 255, 180, 132, 6, 1, 167, 255, 159, 177] = true := by decide +kernel
theorem dX1_tellLeastOrder_96 : decode cX1_tellLeastOrder 96 = .ok (.ior, 1) := dq128 bw_cX1_tellLeastOrder_4 0 rfl rfl
theorem dX1_tellLeastOrder_97 : decode cX1_tellLeastOrder 97 = .ok (.istore 5, 2) := dq54 bw_cX1_tellLeastOrder_4 1 rfl rfl
theorem dX1_tellLeastOrder_99 : decode cX1_tellLeastOrder 99 = .ok (.iload 9, 2) := dq21 bw_cX1_tellLeastOrder_4 3 rfl rfl
theorem dX1_tellLeastOrder_101 : decode cX1_tellLeastOrder 101 = .ok (.istore 4, 2) := dq54 bw_cX1_tellLeastOrder_4 5 rfl rfl
theorem dX1_tellLeastOrder_103 : decode cX1_tellLeastOrder 103 = .ok (.iinc 8 1, 3) := dq132 bw_cX1_tellLeastOrder_4 7 rfl rfl rfl
theorem dX1_tellLeastOrder_106 : decode cX1_tellLeastOrder 106 = .ok (.goto (-76), 3) := dq167 bw_cX1_tellLeastOrder_4 10 rfl rfl rfl
theorem dX1_tellLeastOrder_109 : decode cX1_tellLeastOrder 109 = .ok (.iinc 6 1, 3) := dq132 bw_cX1_tellLeastOrder_4 13 rfl rfl rfl
theorem dX1_tellLeastOrder_112 : decode cX1_tellLeastOrder 112 = .ok (.goto (-97), 3) := dq167 bw_cX1_tellLeastOrder_4 16 rfl rfl rfl
theorem dX1_tellLeastOrder_115 : decode cX1_tellLeastOrder 115 = .ok (.return_, 1) := dq177 bw_cX1_tellLeastOrder_4 19 rfl rfl
theorem bw_cX11_gates_0 : dq_w cX11_gates 0 [42, 180, 0, 19, 27, 182, 0, 144, 154, 0, 5, 2, 172, 42, 180, 0, 70, 42, 180, 0, 19, 182, 1, 73, 42, 180, 0] = true := by decide +kernel
theorem dX11_gates_0 : decode cX11_gates 0 = .ok (.aload_n 0, 1) := dq42 bw_cX11_gates_0 0 rfl rfl
theorem dX11_gates_1 : decode cX11_gates 1 = .ok (.getfield 19, 3) := dq180 bw_cX11_gates_0 1 rfl rfl rfl
theorem dX11_gates_4 : decode cX11_gates 4 = .ok (.iload_n 1, 1) := dq27 bw_cX11_gates_0 4 rfl rfl
theorem dX11_gates_5 : decode cX11_gates 5 = .ok (.invokevirtual 144, 3) := dq182 bw_cX11_gates_0 5 rfl rfl rfl
theorem dX11_gates_8 : decode cX11_gates 8 = .ok (.ifCond .ne 5, 3) := dq154 bw_cX11_gates_0 8 rfl rfl rfl
theorem dX11_gates_11 : decode cX11_gates 11 = .ok (.iconst (-1), 1) := dq2 bw_cX11_gates_0 11 rfl rfl
theorem dX11_gates_12 : decode cX11_gates 12 = .ok (.ireturn, 1) := dq172 bw_cX11_gates_0 12 rfl rfl
theorem dX11_gates_13 : decode cX11_gates 13 = .ok (.aload_n 0, 1) := dq42 bw_cX11_gates_0 13 rfl rfl
theorem dX11_gates_14 : decode cX11_gates 14 = .ok (.getfield 70, 3) := dq180 bw_cX11_gates_0 14 rfl rfl rfl
theorem dX11_gates_17 : decode cX11_gates 17 = .ok (.aload_n 0, 1) := dq42 bw_cX11_gates_0 17 rfl rfl
theorem dX11_gates_18 : decode cX11_gates 18 = .ok (.getfield 19, 3) := dq180 bw_cX11_gates_0 18 rfl rfl rfl
theorem dX11_gates_21 : decode cX11_gates 21 = .ok (.invokevirtual 329, 3) := dq182 bw_cX11_gates_0 21 rfl rfl rfl
theorem bw_cX11_gates_1 : dq_w cX11_gates 24 [42, 180, 0, 70, 42, 180, 0, 19, 27, 182, 1, 77, 61, 28, 156, 0, 6, 16, 254, 172, 42, 180, 0, 70, 42, 180, 0] = true := by decide +kernel
theorem dX11_gates_24 : decode cX11_gates 24 = .ok (.aload_n 0, 1) := dq42 bw_cX11_gates_1 0 rfl rfl
theorem dX11_gates_25 : decode cX11_gates 25 = .ok (.getfield 70, 3) := dq180 bw_cX11_gates_1 1 rfl rfl rfl
theorem dX11_gates_28 : decode cX11_gates 28 = .ok (.aload_n 0, 1) := dq42 bw_cX11_gates_1 4 rfl rfl
theorem dX11_gates_29 : decode cX11_gates 29 = .ok (.getfield 19, 3) := dq180 bw_cX11_gates_1 5 rfl rfl rfl
theorem dX11_gates_32 : decode cX11_gates 32 = .ok (.iload_n 1, 1) := dq27 bw_cX11_gates_1 8 rfl rfl
theorem dX11_gates_33 : decode cX11_gates 33 = .ok (.invokevirtual 333, 3) := dq182 bw_cX11_gates_1 9 rfl rfl rfl
theorem dX11_gates_36 : decode cX11_gates 36 = .ok (.istore_n 2, 1) := dq61 bw_cX11_gates_1 12 rfl rfl
theorem dX11_gates_37 : decode cX11_gates 37 = .ok (.iload_n 2, 1) := dq28 bw_cX11_gates_1 13 rfl rfl
theorem dX11_gates_38 : decode cX11_gates 38 = .ok (.ifCond .ge 6, 3) := dq156 bw_cX11_gates_1 14 rfl rfl rfl
theorem dX11_gates_41 : decode cX11_gates 41 = .ok (.bipush (-2), 2) := dq16 bw_cX11_gates_1 17 rfl rfl rfl
theorem dX11_gates_43 : decode cX11_gates 43 = .ok (.ireturn, 1) := dq172 bw_cX11_gates_1 19 rfl rfl
theorem dX11_gates_44 : decode cX11_gates 44 = .ok (.aload_n 0, 1) := dq42 bw_cX11_gates_1 20 rfl rfl
theorem dX11_gates_45 : decode cX11_gates 45 = .ok (.getfield 70, 3) := dq180 bw_cX11_gates_1 21 rfl rfl rfl
theorem bw_cX11_gates_2 : dq_w cX11_gates 48 [42, 180, 0, 19, 27, 42, 180, 0, 26, 182, 1, 80, 28, 172] = true := by decide +kernel
theorem dX11_gates_48 : decode cX11_gates 48 = .ok (.aload_n 0, 1) := dq42 bw_cX11_gates_2 0 rfl rfl
theorem dX11_gates_49 : decode cX11_gates 49 = .ok (.getfield 19, 3) := dq180 bw_cX11_gates_2 1 rfl rfl rfl
theorem dX11_gates_52 : decode cX11_gates 52 = .ok (.iload_n 1, 1) := dq27 bw_cX11_gates_2 4 rfl rfl
theorem dX11_gates_53 : decode cX11_gates 53 = .ok (.aload_n 0, 1) := dq42 bw_cX11_gates_2 5 rfl rfl
theorem dX11_gates_54 : decode cX11_gates 54 = .ok (.getfield 26, 3) := dq180 bw_cX11_gates_2 6 rfl rfl rfl
theorem dX11_gates_57 : decode cX11_gates 57 = .ok (.invokevirtual 336, 3) := dq182 bw_cX11_gates_2 9 rfl rfl rfl
theorem dX11_gates_60 : decode cX11_gates 60 = .ok (.iload_n 2, 1) := dq28 bw_cX11_gates_2 12 rfl rfl
theorem dX11_gates_61 : decode cX11_gates 61 = .ok (.ireturn, 1) := dq172 bw_cX11_gates_2 13 rfl rfl
theorem bw_cX0_hear_0 : dq_w cX0_hear 0 [42, 180, 0, 9, 16, 12, 161, 0, 5, 3, 172, 42, 180, 0, 22, 42, 180, 0, 9, 27, 79, 42, 180, 0, 26, 42, 180] = true := by decide +kernel
theorem dX0_hear_0 : decode cX0_hear 0 = .ok (.aload_n 0, 1) := dq42 bw_cX0_hear_0 0 rfl rfl
theorem dX0_hear_1 : decode cX0_hear 1 = .ok (.getfield 9, 3) := dq180 bw_cX0_hear_0 1 rfl rfl rfl
theorem dX0_hear_4 : decode cX0_hear 4 = .ok (.bipush 12, 2) := dq16 bw_cX0_hear_0 4 rfl rfl rfl
theorem dX0_hear_6 : decode cX0_hear 6 = .ok (.if_icmp .lt 5, 3) := dq161 bw_cX0_hear_0 6 rfl rfl rfl
theorem dX0_hear_9 : decode cX0_hear 9 = .ok (.iconst 0, 1) := dq3 bw_cX0_hear_0 9 rfl rfl
theorem dX0_hear_10 : decode cX0_hear 10 = .ok (.ireturn, 1) := dq172 bw_cX0_hear_0 10 rfl rfl
theorem dX0_hear_11 : decode cX0_hear 11 = .ok (.aload_n 0, 1) := dq42 bw_cX0_hear_0 11 rfl rfl
theorem dX0_hear_12 : decode cX0_hear 12 = .ok (.getfield 22, 3) := dq180 bw_cX0_hear_0 12 rfl rfl rfl
theorem dX0_hear_15 : decode cX0_hear 15 = .ok (.aload_n 0, 1) := dq42 bw_cX0_hear_0 15 rfl rfl
theorem dX0_hear_16 : decode cX0_hear 16 = .ok (.getfield 9, 3) := dq180 bw_cX0_hear_0 16 rfl rfl rfl
theorem dX0_hear_19 : decode cX0_hear 19 = .ok (.iload_n 1, 1) := dq27 bw_cX0_hear_0 19 rfl rfl
theorem dX0_hear_20 : decode cX0_hear 20 = .ok (.iastore, 1) := dq79 bw_cX0_hear_0 20 rfl rfl
theorem dX0_hear_21 : decode cX0_hear 21 = .ok (.aload_n 0, 1) := dq42 bw_cX0_hear_0 21 rfl rfl
theorem dX0_hear_22 : decode cX0_hear 22 = .ok (.getfield 26, 3) := dq180 bw_cX0_hear_0 22 rfl rfl rfl
theorem bw_cX0_hear_1 : dq_w cX0_hear 24 [26, 42, 180, 0, 9, 28, 79, 42, 89, 180, 0, 9, 4, 96, 181, 0, 9, 4, 172] = true := by decide +kernel
theorem dX0_hear_25 : decode cX0_hear 25 = .ok (.aload_n 0, 1) := dq42 bw_cX0_hear_1 1 rfl rfl
theorem dX0_hear_26 : decode cX0_hear 26 = .ok (.getfield 9, 3) := dq180 bw_cX0_hear_1 2 rfl rfl rfl
theorem dX0_hear_29 : decode cX0_hear 29 = .ok (.iload_n 2, 1) := dq28 bw_cX0_hear_1 5 rfl rfl
theorem dX0_hear_30 : decode cX0_hear 30 = .ok (.iastore, 1) := dq79 bw_cX0_hear_1 6 rfl rfl
theorem dX0_hear_31 : decode cX0_hear 31 = .ok (.aload_n 0, 1) := dq42 bw_cX0_hear_1 7 rfl rfl
theorem dX0_hear_32 : decode cX0_hear 32 = .ok (.dup, 1) := dq89 bw_cX0_hear_1 8 rfl rfl
theorem dX0_hear_33 : decode cX0_hear 33 = .ok (.getfield 9, 3) := dq180 bw_cX0_hear_1 9 rfl rfl rfl
theorem dX0_hear_36 : decode cX0_hear 36 = .ok (.iconst 1, 1) := dq4 bw_cX0_hear_1 12 rfl rfl
theorem dX0_hear_37 : decode cX0_hear 37 = .ok (.iadd, 1) := dq96 bw_cX0_hear_1 13 rfl rfl
theorem dX0_hear_38 : decode cX0_hear 38 = .ok (.putfield 9, 3) := dq181 bw_cX0_hear_1 14 rfl rfl rfl
theorem dX0_hear_41 : decode cX0_hear 41 = .ok (.iconst 1, 1) := dq4 bw_cX0_hear_1 17 rfl rfl
theorem dX0_hear_42 : decode cX0_hear 42 = .ok (.ireturn, 1) := dq172 bw_cX0_hear_1 18 rfl rfl
theorem bw_cX11_heard_0 : dq_w cX11_heard 0 [42, 180, 0, 19, 27, 182, 0, 105, 153, 0, 13, 28, 155, 0, 9, 28, 16, 6, 164, 0, 5, 2, 172, 42, 180, 0, 77] = true := by decide +kernel
theorem dX11_heard_0 : decode cX11_heard 0 = .ok (.aload_n 0, 1) := dq42 bw_cX11_heard_0 0 rfl rfl
theorem dX11_heard_1 : decode cX11_heard 1 = .ok (.getfield 19, 3) := dq180 bw_cX11_heard_0 1 rfl rfl rfl
theorem dX11_heard_4 : decode cX11_heard 4 = .ok (.iload_n 1, 1) := dq27 bw_cX11_heard_0 4 rfl rfl
theorem dX11_heard_5 : decode cX11_heard 5 = .ok (.invokevirtual 105, 3) := dq182 bw_cX11_heard_0 5 rfl rfl rfl
theorem dX11_heard_8 : decode cX11_heard 8 = .ok (.ifCond .eq 13, 3) := dq153 bw_cX11_heard_0 8 rfl rfl rfl
theorem dX11_heard_11 : decode cX11_heard 11 = .ok (.iload_n 2, 1) := dq28 bw_cX11_heard_0 11 rfl rfl
theorem dX11_heard_12 : decode cX11_heard 12 = .ok (.ifCond .lt 9, 3) := dq155 bw_cX11_heard_0 12 rfl rfl rfl
theorem dX11_heard_15 : decode cX11_heard 15 = .ok (.iload_n 2, 1) := dq28 bw_cX11_heard_0 15 rfl rfl
theorem dX11_heard_16 : decode cX11_heard 16 = .ok (.bipush 6, 2) := dq16 bw_cX11_heard_0 16 rfl rfl rfl
theorem dX11_heard_18 : decode cX11_heard 18 = .ok (.if_icmp .le 5, 3) := dq164 bw_cX11_heard_0 18 rfl rfl rfl
theorem dX11_heard_21 : decode cX11_heard 21 = .ok (.iconst (-1), 1) := dq2 bw_cX11_heard_0 21 rfl rfl
theorem dX11_heard_22 : decode cX11_heard 22 = .ok (.ireturn, 1) := dq172 bw_cX11_heard_0 22 rfl rfl
theorem dX11_heard_23 : decode cX11_heard 23 = .ok (.aload_n 0, 1) := dq42 bw_cX11_heard_0 23 rfl rfl
theorem bw_cX11_heard_1 : dq_w cX11_heard 24 [180, 0, 77, 27, 28, 182, 1, 84, 153, 0, 13, 42, 180, 0, 77, 180, 1, 87, 167, 0, 4, 2, 172] = true := by decide +kernel
theorem dX11_heard_24 : decode cX11_heard 24 = .ok (.getfield 77, 3) := dq180 bw_cX11_heard_1 0 rfl rfl rfl
theorem dX11_heard_27 : decode cX11_heard 27 = .ok (.iload_n 1, 1) := dq27 bw_cX11_heard_1 3 rfl rfl
theorem dX11_heard_28 : decode cX11_heard 28 = .ok (.iload_n 2, 1) := dq28 bw_cX11_heard_1 4 rfl rfl
theorem dX11_heard_29 : decode cX11_heard 29 = .ok (.invokevirtual 340, 3) := dq182 bw_cX11_heard_1 5 rfl rfl rfl
theorem dX11_heard_32 : decode cX11_heard 32 = .ok (.ifCond .eq 13, 3) := dq153 bw_cX11_heard_1 8 rfl rfl rfl
theorem dX11_heard_35 : decode cX11_heard 35 = .ok (.aload_n 0, 1) := dq42 bw_cX11_heard_1 11 rfl rfl
theorem dX11_heard_36 : decode cX11_heard 36 = .ok (.getfield 77, 3) := dq180 bw_cX11_heard_1 12 rfl rfl rfl
theorem dX11_heard_39 : decode cX11_heard 39 = .ok (.getfield 343, 3) := dq180 bw_cX11_heard_1 15 rfl rfl rfl
theorem dX11_heard_42 : decode cX11_heard 42 = .ok (.goto 4, 3) := dq167 bw_cX11_heard_1 18 rfl rfl rfl
theorem dX11_heard_45 : decode cX11_heard 45 = .ok (.iconst (-1), 1) := dq2 bw_cX11_heard_1 21 rfl rfl
theorem dX11_heard_46 : decode cX11_heard 46 = .ok (.ireturn, 1) := dq172 bw_cX11_heard_1 22 rfl rfl
theorem bw_cX11_forget_0 : dq_w cX11_forget 0 [42, 180, 0, 77, 180, 1, 87, 154, 0, 5, 2, 172, 42, 180, 0, 77, 89, 180, 1, 87, 4, 100, 181, 1, 87, 42, 180] = true := by decide +kernel
theorem dX11_forget_0 : decode cX11_forget 0 = .ok (.aload_n 0, 1) := dq42 bw_cX11_forget_0 0 rfl rfl
theorem dX11_forget_1 : decode cX11_forget 1 = .ok (.getfield 77, 3) := dq180 bw_cX11_forget_0 1 rfl rfl rfl
theorem dX11_forget_4 : decode cX11_forget 4 = .ok (.getfield 343, 3) := dq180 bw_cX11_forget_0 4 rfl rfl rfl
theorem dX11_forget_7 : decode cX11_forget 7 = .ok (.ifCond .ne 5, 3) := dq154 bw_cX11_forget_0 7 rfl rfl rfl
theorem dX11_forget_10 : decode cX11_forget 10 = .ok (.iconst (-1), 1) := dq2 bw_cX11_forget_0 10 rfl rfl
theorem dX11_forget_11 : decode cX11_forget 11 = .ok (.ireturn, 1) := dq172 bw_cX11_forget_0 11 rfl rfl
theorem dX11_forget_12 : decode cX11_forget 12 = .ok (.aload_n 0, 1) := dq42 bw_cX11_forget_0 12 rfl rfl
theorem dX11_forget_13 : decode cX11_forget 13 = .ok (.getfield 77, 3) := dq180 bw_cX11_forget_0 13 rfl rfl rfl
theorem dX11_forget_16 : decode cX11_forget 16 = .ok (.dup, 1) := dq89 bw_cX11_forget_0 16 rfl rfl
theorem dX11_forget_17 : decode cX11_forget 17 = .ok (.getfield 343, 3) := dq180 bw_cX11_forget_0 17 rfl rfl rfl
theorem dX11_forget_20 : decode cX11_forget 20 = .ok (.iconst 1, 1) := dq4 bw_cX11_forget_0 20 rfl rfl
theorem dX11_forget_21 : decode cX11_forget 21 = .ok (.isub, 1) := dq100 bw_cX11_forget_0 21 rfl rfl
theorem dX11_forget_22 : decode cX11_forget 22 = .ok (.putfield 343, 3) := dq181 bw_cX11_forget_0 22 rfl rfl rfl
theorem bw_cX11_forget_1 : dq_w cX11_forget 24 [87, 42, 180, 0, 77, 180, 1, 87, 172] = true := by decide +kernel
theorem dX11_forget_25 : decode cX11_forget 25 = .ok (.aload_n 0, 1) := dq42 bw_cX11_forget_1 1 rfl rfl
theorem dX11_forget_26 : decode cX11_forget 26 = .ok (.getfield 77, 3) := dq180 bw_cX11_forget_1 2 rfl rfl rfl
theorem dX11_forget_29 : decode cX11_forget 29 = .ok (.getfield 343, 3) := dq180 bw_cX11_forget_1 5 rfl rfl rfl
theorem dX11_forget_32 : decode cX11_forget 32 = .ok (.ireturn, 1) := dq172 bw_cX11_forget_1 8 rfl rfl
theorem bw_cX0_all_0 : dq_w cX0_all 0 [4, 42, 180, 0, 9, 120, 4, 100, 172] = true := by decide +kernel
theorem dX0_all_0 : decode cX0_all 0 = .ok (.iconst 1, 1) := dq4 bw_cX0_all_0 0 rfl rfl
theorem dX0_all_1 : decode cX0_all 1 = .ok (.aload_n 0, 1) := dq42 bw_cX0_all_0 1 rfl rfl
theorem dX0_all_2 : decode cX0_all 2 = .ok (.getfield 9, 3) := dq180 bw_cX0_all_0 2 rfl rfl rfl
theorem dX0_all_5 : decode cX0_all 5 = .ok (.ishl, 1) := dq120 bw_cX0_all_0 5 rfl rfl
theorem dX0_all_6 : decode cX0_all 6 = .ok (.iconst 1, 1) := dq4 bw_cX0_all_0 6 rfl rfl
theorem dX0_all_7 : decode cX0_all 7 = .ok (.isub, 1) := dq100 bw_cX0_all_0 7 rfl rfl
theorem dX0_all_8 : decode cX0_all 8 = .ok (.ireturn, 1) := dq172 bw_cX0_all_0 8 rfl rfl
theorem bw_cX0_cowsIn_0 : dq_w cX0_cowsIn 0 [26, 5, 8, 27, 100, 104, 122, 6, 126, 172] = true := by decide +kernel
theorem dX0_cowsIn_0 : decode cX0_cowsIn 0 = .ok (.iload_n 0, 1) := dq26 bw_cX0_cowsIn_0 0 rfl rfl
theorem dX0_cowsIn_1 : decode cX0_cowsIn 1 = .ok (.iconst 2, 1) := dq5 bw_cX0_cowsIn_0 1 rfl rfl
theorem dX0_cowsIn_2 : decode cX0_cowsIn 2 = .ok (.iconst 5, 1) := dq8 bw_cX0_cowsIn_0 2 rfl rfl
theorem dX0_cowsIn_3 : decode cX0_cowsIn 3 = .ok (.iload_n 1, 1) := dq27 bw_cX0_cowsIn_0 3 rfl rfl
theorem dX0_cowsIn_4 : decode cX0_cowsIn 4 = .ok (.isub, 1) := dq100 bw_cX0_cowsIn_0 4 rfl rfl
theorem dX0_cowsIn_5 : decode cX0_cowsIn 5 = .ok (.imul, 1) := dq104 bw_cX0_cowsIn_0 5 rfl rfl
theorem dX0_cowsIn_6 : decode cX0_cowsIn 6 = .ok (.ishr, 1) := dq122 bw_cX0_cowsIn_0 6 rfl rfl
theorem dX0_cowsIn_7 : decode cX0_cowsIn 7 = .ok (.iconst 3, 1) := dq6 bw_cX0_cowsIn_0 7 rfl rfl
theorem dX0_cowsIn_8 : decode cX0_cowsIn 8 = .ok (.iand, 1) := dq126 bw_cX0_cowsIn_0 8 rfl rfl
theorem dX0_cowsIn_9 : decode cX0_cowsIn 9 = .ok (.ireturn, 1) := dq172 bw_cX0_cowsIn_0 9 rfl rfl
theorem bw_cX0_cowsOver_0 : dq_w cX0_cowsOver 0 [28, 42, 180, 0, 36, 27, 46, 184, 0, 32, 28, 42, 180, 0, 41, 27, 46, 184, 0, 32, 96, 172] = true := by decide +kernel
theorem dX0_cowsOver_0 : decode cX0_cowsOver 0 = .ok (.iload_n 2, 1) := dq28 bw_cX0_cowsOver_0 0 rfl rfl
theorem dX0_cowsOver_1 : decode cX0_cowsOver 1 = .ok (.aload_n 0, 1) := dq42 bw_cX0_cowsOver_0 1 rfl rfl
theorem dX0_cowsOver_2 : decode cX0_cowsOver 2 = .ok (.getfield 36, 3) := dq180 bw_cX0_cowsOver_0 2 rfl rfl rfl
theorem dX0_cowsOver_5 : decode cX0_cowsOver 5 = .ok (.iload_n 1, 1) := dq27 bw_cX0_cowsOver_0 5 rfl rfl
theorem dX0_cowsOver_6 : decode cX0_cowsOver 6 = .ok (.iaload, 1) := dq46 bw_cX0_cowsOver_0 6 rfl rfl
theorem dX0_cowsOver_7 : decode cX0_cowsOver 7 = .ok (.invokestatic 32, 3) := dq184 bw_cX0_cowsOver_0 7 rfl rfl rfl
theorem dX0_cowsOver_10 : decode cX0_cowsOver 10 = .ok (.iload_n 2, 1) := dq28 bw_cX0_cowsOver_0 10 rfl rfl
theorem dX0_cowsOver_11 : decode cX0_cowsOver 11 = .ok (.aload_n 0, 1) := dq42 bw_cX0_cowsOver_0 11 rfl rfl
theorem dX0_cowsOver_12 : decode cX0_cowsOver 12 = .ok (.getfield 41, 3) := dq180 bw_cX0_cowsOver_0 12 rfl rfl rfl
theorem dX0_cowsOver_15 : decode cX0_cowsOver 15 = .ok (.iload_n 1, 1) := dq27 bw_cX0_cowsOver_0 15 rfl rfl
theorem dX0_cowsOver_16 : decode cX0_cowsOver 16 = .ok (.iaload, 1) := dq46 bw_cX0_cowsOver_0 16 rfl rfl
theorem dX0_cowsOver_17 : decode cX0_cowsOver 17 = .ok (.invokestatic 32, 3) := dq184 bw_cX0_cowsOver_0 17 rfl rfl rfl
theorem dX0_cowsOver_20 : decode cX0_cowsOver 20 = .ok (.iadd, 1) := dq96 bw_cX0_cowsOver_0 20 rfl rfl
theorem dX0_cowsOver_21 : decode cX0_cowsOver 21 = .ok (.ireturn, 1) := dq172 bw_cX0_cowsOver_0 21 rfl rfl
theorem bw_cX0_isLie_0 : dq_w cX0_isLie 0 [43, 42, 180, 0, 22, 29, 46, 28, 184, 0, 44, 42, 180, 0, 26, 29, 46, 159, 0, 7, 4, 167, 0, 4, 3, 172] = true := by decide +kernel
theorem dX0_isLie_0 : decode cX0_isLie 0 = .ok (.aload_n 1, 1) := dq43 bw_cX0_isLie_0 0 rfl rfl
theorem dX0_isLie_1 : decode cX0_isLie 1 = .ok (.aload_n 0, 1) := dq42 bw_cX0_isLie_0 1 rfl rfl
theorem dX0_isLie_2 : decode cX0_isLie 2 = .ok (.getfield 22, 3) := dq180 bw_cX0_isLie_0 2 rfl rfl rfl
theorem dX0_isLie_5 : decode cX0_isLie 5 = .ok (.iload_n 3, 1) := dq29 bw_cX0_isLie_0 5 rfl rfl
theorem dX0_isLie_6 : decode cX0_isLie 6 = .ok (.iaload, 1) := dq46 bw_cX0_isLie_0 6 rfl rfl
theorem dX0_isLie_7 : decode cX0_isLie 7 = .ok (.iload_n 2, 1) := dq28 bw_cX0_isLie_0 7 rfl rfl
theorem dX0_isLie_8 : decode cX0_isLie 8 = .ok (.invokestatic 44, 3) := dq184 bw_cX0_isLie_0 8 rfl rfl rfl
theorem dX0_isLie_11 : decode cX0_isLie 11 = .ok (.aload_n 0, 1) := dq42 bw_cX0_isLie_0 11 rfl rfl
theorem dX0_isLie_12 : decode cX0_isLie 12 = .ok (.getfield 26, 3) := dq180 bw_cX0_isLie_0 12 rfl rfl rfl
theorem dX0_isLie_15 : decode cX0_isLie 15 = .ok (.iload_n 3, 1) := dq29 bw_cX0_isLie_0 15 rfl rfl
theorem dX0_isLie_16 : decode cX0_isLie 16 = .ok (.iaload, 1) := dq46 bw_cX0_isLie_0 16 rfl rfl
theorem dX0_isLie_17 : decode cX0_isLie 17 = .ok (.if_icmp .eq 7, 3) := dq159 bw_cX0_isLie_0 17 rfl rfl rfl
theorem dX0_isLie_20 : decode cX0_isLie 20 = .ok (.iconst 1, 1) := dq4 bw_cX0_isLie_0 20 rfl rfl
theorem dX0_isLie_21 : decode cX0_isLie 21 = .ok (.goto 4, 3) := dq167 bw_cX0_isLie_0 21 rfl rfl rfl
theorem bw_cX0_isLie_1 : dq_w cX0_isLie 24 [3, 172] = true := by decide +kernel
theorem dX0_isLie_24 : decode cX0_isLie 24 = .ok (.iconst 0, 1) := dq3 bw_cX0_isLie_1 0 rfl rfl
theorem dX0_isLie_25 : decode cX0_isLie 25 = .ok (.ireturn, 1) := dq172 bw_cX0_isLie_1 1 rfl rfl
theorem bw_cX0_allHold_0 : dq_w cX0_allHold 0 [3, 54, 4, 21, 4, 42, 180, 0, 9, 162, 0, 31, 29, 21, 4, 122, 4, 126, 153, 0, 16, 42, 43, 28, 21, 4, 182] = true := by decide +kernel
theorem dX0_allHold_0 : decode cX0_allHold 0 = .ok (.iconst 0, 1) := dq3 bw_cX0_allHold_0 0 rfl rfl
theorem dX0_allHold_1 : decode cX0_allHold 1 = .ok (.istore 4, 2) := dq54 bw_cX0_allHold_0 1 rfl rfl
theorem dX0_allHold_3 : decode cX0_allHold 3 = .ok (.iload 4, 2) := dq21 bw_cX0_allHold_0 3 rfl rfl
theorem dX0_allHold_5 : decode cX0_allHold 5 = .ok (.aload_n 0, 1) := dq42 bw_cX0_allHold_0 5 rfl rfl
theorem dX0_allHold_6 : decode cX0_allHold 6 = .ok (.getfield 9, 3) := dq180 bw_cX0_allHold_0 6 rfl rfl rfl
theorem dX0_allHold_9 : decode cX0_allHold 9 = .ok (.if_icmp .ge 31, 3) := dq162 bw_cX0_allHold_0 9 rfl rfl rfl
theorem dX0_allHold_12 : decode cX0_allHold 12 = .ok (.iload_n 3, 1) := dq29 bw_cX0_allHold_0 12 rfl rfl
theorem dX0_allHold_13 : decode cX0_allHold 13 = .ok (.iload 4, 2) := dq21 bw_cX0_allHold_0 13 rfl rfl
theorem dX0_allHold_15 : decode cX0_allHold 15 = .ok (.ishr, 1) := dq122 bw_cX0_allHold_0 15 rfl rfl
theorem dX0_allHold_16 : decode cX0_allHold 16 = .ok (.iconst 1, 1) := dq4 bw_cX0_allHold_0 16 rfl rfl
theorem dX0_allHold_17 : decode cX0_allHold 17 = .ok (.iand, 1) := dq126 bw_cX0_allHold_0 17 rfl rfl
theorem dX0_allHold_18 : decode cX0_allHold 18 = .ok (.ifCond .eq 16, 3) := dq153 bw_cX0_allHold_0 18 rfl rfl rfl
theorem dX0_allHold_21 : decode cX0_allHold 21 = .ok (.aload_n 0, 1) := dq42 bw_cX0_allHold_0 21 rfl rfl
theorem dX0_allHold_22 : decode cX0_allHold 22 = .ok (.aload_n 1, 1) := dq43 bw_cX0_allHold_0 22 rfl rfl
theorem dX0_allHold_23 : decode cX0_allHold 23 = .ok (.iload_n 2, 1) := dq28 bw_cX0_allHold_0 23 rfl rfl
theorem bw_cX0_allHold_1 : dq_w cX0_allHold 24 [21, 4, 182, 0, 48, 153, 0, 5, 3, 172, 132, 4, 1, 167, 255, 222, 4, 172] = true := by decide +kernel
theorem dX0_allHold_24 : decode cX0_allHold 24 = .ok (.iload 4, 2) := dq21 bw_cX0_allHold_1 0 rfl rfl
theorem dX0_allHold_26 : decode cX0_allHold 26 = .ok (.invokevirtual 48, 3) := dq182 bw_cX0_allHold_1 2 rfl rfl rfl
theorem dX0_allHold_29 : decode cX0_allHold 29 = .ok (.ifCond .eq 5, 3) := dq153 bw_cX0_allHold_1 5 rfl rfl rfl
theorem dX0_allHold_32 : decode cX0_allHold 32 = .ok (.iconst 0, 1) := dq3 bw_cX0_allHold_1 8 rfl rfl
theorem dX0_allHold_33 : decode cX0_allHold 33 = .ok (.ireturn, 1) := dq172 bw_cX0_allHold_1 9 rfl rfl
theorem dX0_allHold_34 : decode cX0_allHold 34 = .ok (.iinc 4 1, 3) := dq132 bw_cX0_allHold_1 10 rfl rfl rfl
theorem dX0_allHold_37 : decode cX0_allHold 37 = .ok (.goto (-34), 3) := dq167 bw_cX0_allHold_1 13 rfl rfl rfl
theorem dX0_allHold_40 : decode cX0_allHold 40 = .ok (.iconst 1, 1) := dq4 bw_cX0_allHold_1 16 rfl rfl
theorem dX0_allHold_41 : decode cX0_allHold 41 = .ok (.ireturn, 1) := dq172 bw_cX0_allHold_1 17 rfl rfl
theorem bw_cX0_findWays_0 : dq_w cX0_findWays 0 [3, 61, 28, 16, 64, 162, 0, 16, 42, 180, 0, 18, 28, 9, 80, 132, 2, 1, 167, 255, 240, 3, 61, 17, 15, 255, 62] = true := by decide +kernel
theorem dX0_findWays_0 : decode cX0_findWays 0 = .ok (.iconst 0, 1) := dq3 bw_cX0_findWays_0 0 rfl rfl
theorem dX0_findWays_1 : decode cX0_findWays 1 = .ok (.istore_n 2, 1) := dq61 bw_cX0_findWays_0 1 rfl rfl
theorem dX0_findWays_2 : decode cX0_findWays 2 = .ok (.iload_n 2, 1) := dq28 bw_cX0_findWays_0 2 rfl rfl
theorem dX0_findWays_3 : decode cX0_findWays 3 = .ok (.bipush 64, 2) := dq16 bw_cX0_findWays_0 3 rfl rfl rfl
theorem dX0_findWays_5 : decode cX0_findWays 5 = .ok (.if_icmp .ge 16, 3) := dq162 bw_cX0_findWays_0 5 rfl rfl rfl
theorem dX0_findWays_8 : decode cX0_findWays 8 = .ok (.aload_n 0, 1) := dq42 bw_cX0_findWays_0 8 rfl rfl
theorem dX0_findWays_9 : decode cX0_findWays 9 = .ok (.getfield 18, 3) := dq180 bw_cX0_findWays_0 9 rfl rfl rfl
theorem dX0_findWays_12 : decode cX0_findWays 12 = .ok (.iload_n 2, 1) := dq28 bw_cX0_findWays_0 12 rfl rfl
theorem dX0_findWays_13 : decode cX0_findWays 13 = .ok (.lconst 0, 1) := dq9 bw_cX0_findWays_0 13 rfl rfl
theorem dX0_findWays_14 : decode cX0_findWays 14 = .ok (.lastore, 1) := dq80 bw_cX0_findWays_0 14 rfl rfl
theorem dX0_findWays_15 : decode cX0_findWays 15 = .ok (.iinc 2 1, 3) := dq132 bw_cX0_findWays_0 15 rfl rfl rfl
theorem dX0_findWays_18 : decode cX0_findWays 18 = .ok (.goto (-16), 3) := dq167 bw_cX0_findWays_0 18 rfl rfl rfl
theorem dX0_findWays_21 : decode cX0_findWays 21 = .ok (.iconst 0, 1) := dq3 bw_cX0_findWays_0 21 rfl rfl
theorem dX0_findWays_22 : decode cX0_findWays 22 = .ok (.istore_n 2, 1) := dq61 bw_cX0_findWays_0 22 rfl rfl
theorem dX0_findWays_23 : decode cX0_findWays 23 = .ok (.sipush 4095, 3) := dq17 bw_cX0_findWays_0 23 rfl rfl rfl
theorem bw_cX0_findWays_1 : dq_w cX0_findWays 24 [15, 255, 62, 29, 155, 0, 48, 42, 43, 29, 42, 182, 0, 52, 182, 0, 56, 153, 0, 29, 42, 180, 0, 18, 29, 16, 6] = true := by decide +kernel
theorem dX0_findWays_26 : decode cX0_findWays 26 = .ok (.istore_n 3, 1) := dq62 bw_cX0_findWays_1 2 rfl rfl
theorem dX0_findWays_27 : decode cX0_findWays 27 = .ok (.iload_n 3, 1) := dq29 bw_cX0_findWays_1 3 rfl rfl
theorem dX0_findWays_28 : decode cX0_findWays 28 = .ok (.ifCond .lt 48, 3) := dq155 bw_cX0_findWays_1 4 rfl rfl rfl
theorem dX0_findWays_31 : decode cX0_findWays 31 = .ok (.aload_n 0, 1) := dq42 bw_cX0_findWays_1 7 rfl rfl
theorem dX0_findWays_32 : decode cX0_findWays 32 = .ok (.aload_n 1, 1) := dq43 bw_cX0_findWays_1 8 rfl rfl
theorem dX0_findWays_33 : decode cX0_findWays 33 = .ok (.iload_n 3, 1) := dq29 bw_cX0_findWays_1 9 rfl rfl
theorem dX0_findWays_34 : decode cX0_findWays 34 = .ok (.aload_n 0, 1) := dq42 bw_cX0_findWays_1 10 rfl rfl
theorem dX0_findWays_35 : decode cX0_findWays 35 = .ok (.invokevirtual 52, 3) := dq182 bw_cX0_findWays_1 11 rfl rfl rfl
theorem dX0_findWays_38 : decode cX0_findWays 38 = .ok (.invokevirtual 56, 3) := dq182 bw_cX0_findWays_1 14 rfl rfl rfl
theorem dX0_findWays_41 : decode cX0_findWays 41 = .ok (.ifCond .eq 29, 3) := dq153 bw_cX0_findWays_1 17 rfl rfl rfl
theorem dX0_findWays_44 : decode cX0_findWays 44 = .ok (.aload_n 0, 1) := dq42 bw_cX0_findWays_1 20 rfl rfl
theorem dX0_findWays_45 : decode cX0_findWays 45 = .ok (.getfield 18, 3) := dq180 bw_cX0_findWays_1 21 rfl rfl rfl
theorem bw_cX0_findWays_2 : dq_w cX0_findWays 48 [29, 16, 6, 122, 92, 47, 10, 29, 16, 63, 126, 121, 129, 80, 42, 29, 181, 0, 15, 132, 2, 1, 132, 3, 255, 167, 255] = true := by decide +kernel
theorem dX0_findWays_48 : decode cX0_findWays 48 = .ok (.iload_n 3, 1) := dq29 bw_cX0_findWays_2 0 rfl rfl
theorem dX0_findWays_49 : decode cX0_findWays 49 = .ok (.bipush 6, 2) := dq16 bw_cX0_findWays_2 1 rfl rfl rfl
theorem dX0_findWays_51 : decode cX0_findWays 51 = .ok (.ishr, 1) := dq122 bw_cX0_findWays_2 3 rfl rfl
theorem dX0_findWays_52 : decode cX0_findWays 52 = .ok (.dup2, 1) := dq92 bw_cX0_findWays_2 4 rfl rfl
theorem dX0_findWays_53 : decode cX0_findWays 53 = .ok (.laload, 1) := dq47 bw_cX0_findWays_2 5 rfl rfl
theorem dX0_findWays_54 : decode cX0_findWays 54 = .ok (.lconst 1, 1) := dq10 bw_cX0_findWays_2 6 rfl rfl
theorem dX0_findWays_55 : decode cX0_findWays 55 = .ok (.iload_n 3, 1) := dq29 bw_cX0_findWays_2 7 rfl rfl
theorem dX0_findWays_56 : decode cX0_findWays 56 = .ok (.bipush 63, 2) := dq16 bw_cX0_findWays_2 8 rfl rfl rfl
theorem dX0_findWays_58 : decode cX0_findWays 58 = .ok (.iand, 1) := dq126 bw_cX0_findWays_2 10 rfl rfl
theorem dX0_findWays_59 : decode cX0_findWays 59 = .ok (.lshl, 1) := dq121 bw_cX0_findWays_2 11 rfl rfl
theorem dX0_findWays_60 : decode cX0_findWays 60 = .ok (.lor, 1) := dq129 bw_cX0_findWays_2 12 rfl rfl
theorem dX0_findWays_61 : decode cX0_findWays 61 = .ok (.lastore, 1) := dq80 bw_cX0_findWays_2 13 rfl rfl
theorem dX0_findWays_62 : decode cX0_findWays 62 = .ok (.aload_n 0, 1) := dq42 bw_cX0_findWays_2 14 rfl rfl
theorem dX0_findWays_63 : decode cX0_findWays 63 = .ok (.iload_n 3, 1) := dq29 bw_cX0_findWays_2 15 rfl rfl
theorem dX0_findWays_64 : decode cX0_findWays 64 = .ok (.putfield 15, 3) := dq181 bw_cX0_findWays_2 16 rfl rfl rfl
theorem dX0_findWays_67 : decode cX0_findWays 67 = .ok (.iinc 2 1, 3) := dq132 bw_cX0_findWays_2 19 rfl rfl rfl
theorem dX0_findWays_70 : decode cX0_findWays 70 = .ok (.iinc 3 (-1), 3) := dq132 bw_cX0_findWays_2 22 rfl rfl rfl
theorem bw_cX0_findWays_3 : dq_w cX0_findWays 72 [255, 167, 255, 210, 28, 172] = true := by decide +kernel
theorem dX0_findWays_73 : decode cX0_findWays 73 = .ok (.goto (-46), 3) := dq167 bw_cX0_findWays_3 1 rfl rfl rfl
theorem dX0_findWays_76 : decode cX0_findWays 76 = .ok (.iload_n 2, 1) := dq28 bw_cX0_findWays_3 4 rfl rfl
theorem dX0_findWays_77 : decode cX0_findWays 77 = .ok (.ireturn, 1) := dq172 bw_cX0_findWays_3 5 rfl rfl
theorem bw_cX0_asDigits_0 : dq_w cX0_asDigits 0 [3, 60, 3, 61, 28, 16, 6, 162, 0, 20, 16, 10, 27, 104, 26, 28, 184, 0, 32, 96, 60, 132, 2, 1, 167, 255, 236] = true := by decide +kernel
theorem dX0_asDigits_0 : decode cX0_asDigits 0 = .ok (.iconst 0, 1) := dq3 bw_cX0_asDigits_0 0 rfl rfl
theorem dX0_asDigits_1 : decode cX0_asDigits 1 = .ok (.istore_n 1, 1) := dq60 bw_cX0_asDigits_0 1 rfl rfl
theorem dX0_asDigits_2 : decode cX0_asDigits 2 = .ok (.iconst 0, 1) := dq3 bw_cX0_asDigits_0 2 rfl rfl
theorem dX0_asDigits_3 : decode cX0_asDigits 3 = .ok (.istore_n 2, 1) := dq61 bw_cX0_asDigits_0 3 rfl rfl
theorem dX0_asDigits_4 : decode cX0_asDigits 4 = .ok (.iload_n 2, 1) := dq28 bw_cX0_asDigits_0 4 rfl rfl
theorem dX0_asDigits_5 : decode cX0_asDigits 5 = .ok (.bipush 6, 2) := dq16 bw_cX0_asDigits_0 5 rfl rfl rfl
theorem dX0_asDigits_7 : decode cX0_asDigits 7 = .ok (.if_icmp .ge 20, 3) := dq162 bw_cX0_asDigits_0 7 rfl rfl rfl
theorem dX0_asDigits_10 : decode cX0_asDigits 10 = .ok (.bipush 10, 2) := dq16 bw_cX0_asDigits_0 10 rfl rfl rfl
theorem dX0_asDigits_12 : decode cX0_asDigits 12 = .ok (.iload_n 1, 1) := dq27 bw_cX0_asDigits_0 12 rfl rfl
theorem dX0_asDigits_13 : decode cX0_asDigits 13 = .ok (.imul, 1) := dq104 bw_cX0_asDigits_0 13 rfl rfl
theorem dX0_asDigits_14 : decode cX0_asDigits 14 = .ok (.iload_n 0, 1) := dq26 bw_cX0_asDigits_0 14 rfl rfl
theorem dX0_asDigits_15 : decode cX0_asDigits 15 = .ok (.iload_n 2, 1) := dq28 bw_cX0_asDigits_0 15 rfl rfl
theorem dX0_asDigits_16 : decode cX0_asDigits 16 = .ok (.invokestatic 32, 3) := dq184 bw_cX0_asDigits_0 16 rfl rfl rfl
theorem dX0_asDigits_19 : decode cX0_asDigits 19 = .ok (.iadd, 1) := dq96 bw_cX0_asDigits_0 19 rfl rfl
theorem dX0_asDigits_20 : decode cX0_asDigits 20 = .ok (.istore_n 1, 1) := dq60 bw_cX0_asDigits_0 20 rfl rfl
theorem dX0_asDigits_21 : decode cX0_asDigits 21 = .ok (.iinc 2 1, 3) := dq132 bw_cX0_asDigits_0 21 rfl rfl rfl
theorem bw_cX0_asDigits_1 : dq_w cX0_asDigits 24 [167, 255, 236, 27, 172] = true := by decide +kernel
theorem dX0_asDigits_24 : decode cX0_asDigits 24 = .ok (.goto (-20), 3) := dq167 bw_cX0_asDigits_1 0 rfl rfl rfl
theorem dX0_asDigits_27 : decode cX0_asDigits 27 = .ok (.iload_n 1, 1) := dq27 bw_cX0_asDigits_1 3 rfl rfl
theorem dX0_asDigits_28 : decode cX0_asDigits 28 = .ok (.ireturn, 1) := dq172 bw_cX0_asDigits_1 4 rfl rfl
theorem bw_cX11_lands_0 : dq_w cX11_lands 0 [42, 180, 0, 77, 42, 180, 0, 19, 182, 1, 88, 60, 42, 180, 0, 26, 182, 1, 91, 27, 158, 0, 20, 42, 180, 0, 26] = true := by decide +kernel
theorem dX11_lands_0 : decode cX11_lands 0 = .ok (.aload_n 0, 1) := dq42 bw_cX11_lands_0 0 rfl rfl
theorem dX11_lands_1 : decode cX11_lands 1 = .ok (.getfield 77, 3) := dq180 bw_cX11_lands_0 1 rfl rfl rfl
theorem dX11_lands_4 : decode cX11_lands 4 = .ok (.aload_n 0, 1) := dq42 bw_cX11_lands_0 4 rfl rfl
theorem dX11_lands_5 : decode cX11_lands 5 = .ok (.getfield 19, 3) := dq180 bw_cX11_lands_0 5 rfl rfl rfl
theorem dX11_lands_8 : decode cX11_lands 8 = .ok (.invokevirtual 344, 3) := dq182 bw_cX11_lands_0 8 rfl rfl rfl
theorem dX11_lands_11 : decode cX11_lands 11 = .ok (.istore_n 1, 1) := dq60 bw_cX11_lands_0 11 rfl rfl
theorem dX11_lands_12 : decode cX11_lands 12 = .ok (.aload_n 0, 1) := dq42 bw_cX11_lands_0 12 rfl rfl
theorem dX11_lands_13 : decode cX11_lands 13 = .ok (.getfield 26, 3) := dq180 bw_cX11_lands_0 13 rfl rfl rfl
theorem dX11_lands_16 : decode cX11_lands 16 = .ok (.invokevirtual 347, 3) := dq182 bw_cX11_lands_0 16 rfl rfl rfl
theorem dX11_lands_19 : decode cX11_lands 19 = .ok (.iload_n 1, 1) := dq27 bw_cX11_lands_0 19 rfl rfl
theorem dX11_lands_20 : decode cX11_lands 20 = .ok (.ifCond .le 20, 3) := dq158 bw_cX11_lands_0 20 rfl rfl rfl
theorem dX11_lands_23 : decode cX11_lands 23 = .ok (.aload_n 0, 1) := dq42 bw_cX11_lands_0 23 rfl rfl
theorem bw_cX11_lands_1 : dq_w cX11_lands 24 [180, 0, 26, 42, 180, 0, 77, 180, 1, 94, 184, 1, 97, 182, 0, 231, 27, 172] = true := by decide +kernel
theorem dX11_lands_24 : decode cX11_lands 24 = .ok (.getfield 26, 3) := dq180 bw_cX11_lands_1 0 rfl rfl rfl
theorem dX11_lands_27 : decode cX11_lands 27 = .ok (.aload_n 0, 1) := dq42 bw_cX11_lands_1 3 rfl rfl
theorem dX11_lands_28 : decode cX11_lands 28 = .ok (.getfield 77, 3) := dq180 bw_cX11_lands_1 4 rfl rfl rfl
theorem dX11_lands_31 : decode cX11_lands 31 = .ok (.getfield 350, 3) := dq180 bw_cX11_lands_1 7 rfl rfl rfl
theorem dX11_lands_34 : decode cX11_lands 34 = .ok (.invokestatic 353, 3) := dq184 bw_cX11_lands_1 10 rfl rfl rfl
theorem dX11_lands_37 : decode cX11_lands 37 = .ok (.invokevirtual 231, 3) := dq182 bw_cX11_lands_1 13 rfl rfl rfl
theorem dX11_lands_40 : decode cX11_lands 40 = .ok (.iload_n 1, 1) := dq27 bw_cX11_lands_1 16 rfl rfl
theorem dX11_lands_41 : decode cX11_lands 41 = .ok (.ireturn, 1) := dq172 bw_cX11_lands_1 17 rfl rfl
theorem bw_cX0_isFound_0 : dq_w cX0_isFound 0 [42, 180, 0, 18, 27, 16, 6, 122, 47, 27, 16, 63, 126, 123, 10, 127, 9, 148, 153, 0, 7, 4, 167, 0, 4, 3, 172] = true := by decide +kernel
theorem dX0_isFound_0 : decode cX0_isFound 0 = .ok (.aload_n 0, 1) := dq42 bw_cX0_isFound_0 0 rfl rfl
theorem dX0_isFound_1 : decode cX0_isFound 1 = .ok (.getfield 18, 3) := dq180 bw_cX0_isFound_0 1 rfl rfl rfl
theorem dX0_isFound_4 : decode cX0_isFound 4 = .ok (.iload_n 1, 1) := dq27 bw_cX0_isFound_0 4 rfl rfl
theorem dX0_isFound_5 : decode cX0_isFound 5 = .ok (.bipush 6, 2) := dq16 bw_cX0_isFound_0 5 rfl rfl rfl
theorem dX0_isFound_7 : decode cX0_isFound 7 = .ok (.ishr, 1) := dq122 bw_cX0_isFound_0 7 rfl rfl
theorem dX0_isFound_8 : decode cX0_isFound 8 = .ok (.laload, 1) := dq47 bw_cX0_isFound_0 8 rfl rfl
theorem dX0_isFound_9 : decode cX0_isFound 9 = .ok (.iload_n 1, 1) := dq27 bw_cX0_isFound_0 9 rfl rfl
theorem dX0_isFound_10 : decode cX0_isFound 10 = .ok (.bipush 63, 2) := dq16 bw_cX0_isFound_0 10 rfl rfl rfl
theorem dX0_isFound_12 : decode cX0_isFound 12 = .ok (.iand, 1) := dq126 bw_cX0_isFound_0 12 rfl rfl
theorem dX0_isFound_13 : decode cX0_isFound 13 = .ok (.lshr, 1) := dq123 bw_cX0_isFound_0 13 rfl rfl
theorem dX0_isFound_14 : decode cX0_isFound 14 = .ok (.lconst 1, 1) := dq10 bw_cX0_isFound_0 14 rfl rfl
theorem dX0_isFound_15 : decode cX0_isFound 15 = .ok (.land, 1) := dq127 bw_cX0_isFound_0 15 rfl rfl
theorem dX0_isFound_16 : decode cX0_isFound 16 = .ok (.lconst 0, 1) := dq9 bw_cX0_isFound_0 16 rfl rfl
theorem dX0_isFound_17 : decode cX0_isFound 17 = .ok (.lcmp, 1) := dq148 bw_cX0_isFound_0 17 rfl rfl
theorem dX0_isFound_18 : decode cX0_isFound 18 = .ok (.ifCond .eq 7, 3) := dq153 bw_cX0_isFound_0 18 rfl rfl rfl
theorem dX0_isFound_21 : decode cX0_isFound 21 = .ok (.iconst 1, 1) := dq4 bw_cX0_isFound_0 21 rfl rfl
theorem dX0_isFound_22 : decode cX0_isFound 22 = .ok (.goto 4, 3) := dq167 bw_cX0_isFound_0 22 rfl rfl rfl
theorem bw_cX0_isFound_1 : dq_w cX0_isFound 24 [4, 3, 172] = true := by decide +kernel
theorem dX0_isFound_25 : decode cX0_isFound 25 = .ok (.iconst 0, 1) := dq3 bw_cX0_isFound_1 1 rfl rfl
theorem dX0_isFound_26 : decode cX0_isFound 26 = .ok (.ireturn, 1) := dq172 bw_cX0_isFound_1 2 rfl rfl
theorem bw_cX0_differences_0 : dq_w cX0_differences 0 [3, 60, 3, 61, 28, 17, 16, 0, 162, 0, 26, 42, 28, 182, 0, 59, 153, 0, 12, 27, 28, 42, 180, 0, 15, 130, 128] = true := by decide +kernel
theorem dX0_differences_0 : decode cX0_differences 0 = .ok (.iconst 0, 1) := dq3 bw_cX0_differences_0 0 rfl rfl
theorem dX0_differences_1 : decode cX0_differences 1 = .ok (.istore_n 1, 1) := dq60 bw_cX0_differences_0 1 rfl rfl
theorem dX0_differences_2 : decode cX0_differences 2 = .ok (.iconst 0, 1) := dq3 bw_cX0_differences_0 2 rfl rfl
theorem dX0_differences_3 : decode cX0_differences 3 = .ok (.istore_n 2, 1) := dq61 bw_cX0_differences_0 3 rfl rfl
theorem dX0_differences_4 : decode cX0_differences 4 = .ok (.iload_n 2, 1) := dq28 bw_cX0_differences_0 4 rfl rfl
theorem dX0_differences_5 : decode cX0_differences 5 = .ok (.sipush 4096, 3) := dq17 bw_cX0_differences_0 5 rfl rfl rfl
theorem dX0_differences_8 : decode cX0_differences 8 = .ok (.if_icmp .ge 26, 3) := dq162 bw_cX0_differences_0 8 rfl rfl rfl
theorem dX0_differences_11 : decode cX0_differences 11 = .ok (.aload_n 0, 1) := dq42 bw_cX0_differences_0 11 rfl rfl
theorem dX0_differences_12 : decode cX0_differences 12 = .ok (.iload_n 2, 1) := dq28 bw_cX0_differences_0 12 rfl rfl
theorem dX0_differences_13 : decode cX0_differences 13 = .ok (.invokevirtual 59, 3) := dq182 bw_cX0_differences_0 13 rfl rfl rfl
theorem dX0_differences_16 : decode cX0_differences 16 = .ok (.ifCond .eq 12, 3) := dq153 bw_cX0_differences_0 16 rfl rfl rfl
theorem dX0_differences_19 : decode cX0_differences 19 = .ok (.iload_n 1, 1) := dq27 bw_cX0_differences_0 19 rfl rfl
theorem dX0_differences_20 : decode cX0_differences 20 = .ok (.iload_n 2, 1) := dq28 bw_cX0_differences_0 20 rfl rfl
theorem dX0_differences_21 : decode cX0_differences 21 = .ok (.aload_n 0, 1) := dq42 bw_cX0_differences_0 21 rfl rfl
theorem dX0_differences_22 : decode cX0_differences 22 = .ok (.getfield 15, 3) := dq180 bw_cX0_differences_0 22 rfl rfl rfl
theorem bw_cX0_differences_1 : dq_w cX0_differences 24 [15, 130, 128, 60, 132, 2, 1, 167, 255, 229, 27, 172] = true := by decide +kernel
theorem dX0_differences_25 : decode cX0_differences 25 = .ok (.ixor, 1) := dq130 bw_cX0_differences_1 1 rfl rfl
theorem dX0_differences_26 : decode cX0_differences 26 = .ok (.ior, 1) := dq128 bw_cX0_differences_1 2 rfl rfl
theorem dX0_differences_27 : decode cX0_differences 27 = .ok (.istore_n 1, 1) := dq60 bw_cX0_differences_1 3 rfl rfl
theorem dX0_differences_28 : decode cX0_differences 28 = .ok (.iinc 2 1, 3) := dq132 bw_cX0_differences_1 4 rfl rfl rfl
theorem dX0_differences_31 : decode cX0_differences 31 = .ok (.goto (-27), 3) := dq167 bw_cX0_differences_1 7 rfl rfl rfl
theorem dX0_differences_34 : decode cX0_differences 34 = .ok (.iload_n 1, 1) := dq27 bw_cX0_differences_1 10 rfl rfl
theorem dX0_differences_35 : decode cX0_differences 35 = .ok (.ireturn, 1) := dq172 bw_cX0_differences_1 11 rfl rfl
theorem bw_cX11_sure_0 : dq_w cX11_sure 0 [42, 180, 0, 77, 42, 180, 0, 19, 182, 1, 88, 60, 42, 180, 0, 26, 182, 1, 91, 27, 154, 0, 5, 3, 172, 42, 180] = true := by decide +kernel
theorem dX11_sure_0 : decode cX11_sure 0 = .ok (.aload_n 0, 1) := dq42 bw_cX11_sure_0 0 rfl rfl
theorem dX11_sure_1 : decode cX11_sure 1 = .ok (.getfield 77, 3) := dq180 bw_cX11_sure_0 1 rfl rfl rfl
theorem dX11_sure_4 : decode cX11_sure 4 = .ok (.aload_n 0, 1) := dq42 bw_cX11_sure_0 4 rfl rfl
theorem dX11_sure_5 : decode cX11_sure 5 = .ok (.getfield 19, 3) := dq180 bw_cX11_sure_0 5 rfl rfl rfl
theorem dX11_sure_8 : decode cX11_sure 8 = .ok (.invokevirtual 344, 3) := dq182 bw_cX11_sure_0 8 rfl rfl rfl
theorem dX11_sure_11 : decode cX11_sure 11 = .ok (.istore_n 1, 1) := dq60 bw_cX11_sure_0 11 rfl rfl
theorem dX11_sure_12 : decode cX11_sure 12 = .ok (.aload_n 0, 1) := dq42 bw_cX11_sure_0 12 rfl rfl
theorem dX11_sure_13 : decode cX11_sure 13 = .ok (.getfield 26, 3) := dq180 bw_cX11_sure_0 13 rfl rfl rfl
theorem dX11_sure_16 : decode cX11_sure 16 = .ok (.invokevirtual 347, 3) := dq182 bw_cX11_sure_0 16 rfl rfl rfl
theorem dX11_sure_19 : decode cX11_sure 19 = .ok (.iload_n 1, 1) := dq27 bw_cX11_sure_0 19 rfl rfl
theorem dX11_sure_20 : decode cX11_sure 20 = .ok (.ifCond .ne 5, 3) := dq154 bw_cX11_sure_0 20 rfl rfl rfl
theorem dX11_sure_23 : decode cX11_sure 23 = .ok (.iconst 0, 1) := dq3 bw_cX11_sure_0 23 rfl rfl
theorem bw_cX11_sure_1 : dq_w cX11_sure 24 [172, 42, 180, 0, 77, 182, 1, 100, 61, 3, 62, 3, 54, 4, 21, 4, 16, 6, 162, 0, 44, 28, 21, 4, 184, 1, 103] = true := by decide +kernel
theorem dX11_sure_24 : decode cX11_sure 24 = .ok (.ireturn, 1) := dq172 bw_cX11_sure_1 0 rfl rfl
theorem dX11_sure_25 : decode cX11_sure 25 = .ok (.aload_n 0, 1) := dq42 bw_cX11_sure_1 1 rfl rfl
theorem dX11_sure_26 : decode cX11_sure 26 = .ok (.getfield 77, 3) := dq180 bw_cX11_sure_1 2 rfl rfl rfl
theorem dX11_sure_29 : decode cX11_sure 29 = .ok (.invokevirtual 356, 3) := dq182 bw_cX11_sure_1 5 rfl rfl rfl
theorem dX11_sure_32 : decode cX11_sure 32 = .ok (.istore_n 2, 1) := dq61 bw_cX11_sure_1 8 rfl rfl
theorem dX11_sure_33 : decode cX11_sure 33 = .ok (.iconst 0, 1) := dq3 bw_cX11_sure_1 9 rfl rfl
theorem dX11_sure_34 : decode cX11_sure 34 = .ok (.istore_n 3, 1) := dq62 bw_cX11_sure_1 10 rfl rfl
theorem dX11_sure_35 : decode cX11_sure 35 = .ok (.iconst 0, 1) := dq3 bw_cX11_sure_1 11 rfl rfl
theorem dX11_sure_36 : decode cX11_sure 36 = .ok (.istore 4, 2) := dq54 bw_cX11_sure_1 12 rfl rfl
theorem dX11_sure_38 : decode cX11_sure 38 = .ok (.iload 4, 2) := dq21 bw_cX11_sure_1 14 rfl rfl
theorem dX11_sure_40 : decode cX11_sure 40 = .ok (.bipush 6, 2) := dq16 bw_cX11_sure_1 16 rfl rfl rfl
theorem dX11_sure_42 : decode cX11_sure 42 = .ok (.if_icmp .ge 44, 3) := dq162 bw_cX11_sure_1 18 rfl rfl rfl
theorem dX11_sure_45 : decode cX11_sure 45 = .ok (.iload_n 2, 1) := dq28 bw_cX11_sure_1 21 rfl rfl
theorem dX11_sure_46 : decode cX11_sure 46 = .ok (.iload 4, 2) := dq21 bw_cX11_sure_1 22 rfl rfl
theorem bw_cX11_sure_2 : dq_w cX11_sure 48 [184, 1, 103, 154, 0, 29, 29, 4, 21, 4, 120, 128, 62, 42, 180, 0, 26, 42, 180, 0, 77, 180, 1, 94, 21, 4, 184] = true := by decide +kernel
theorem dX11_sure_48 : decode cX11_sure 48 = .ok (.invokestatic 359, 3) := dq184 bw_cX11_sure_2 0 rfl rfl rfl
theorem dX11_sure_51 : decode cX11_sure 51 = .ok (.ifCond .ne 29, 3) := dq154 bw_cX11_sure_2 3 rfl rfl rfl
theorem dX11_sure_54 : decode cX11_sure 54 = .ok (.iload_n 3, 1) := dq29 bw_cX11_sure_2 6 rfl rfl
theorem dX11_sure_55 : decode cX11_sure 55 = .ok (.iconst 1, 1) := dq4 bw_cX11_sure_2 7 rfl rfl
theorem dX11_sure_56 : decode cX11_sure 56 = .ok (.iload 4, 2) := dq21 bw_cX11_sure_2 8 rfl rfl
theorem dX11_sure_58 : decode cX11_sure 58 = .ok (.ishl, 1) := dq120 bw_cX11_sure_2 10 rfl rfl
theorem dX11_sure_59 : decode cX11_sure 59 = .ok (.ior, 1) := dq128 bw_cX11_sure_2 11 rfl rfl
theorem dX11_sure_60 : decode cX11_sure 60 = .ok (.istore_n 3, 1) := dq62 bw_cX11_sure_2 12 rfl rfl
theorem dX11_sure_61 : decode cX11_sure 61 = .ok (.aload_n 0, 1) := dq42 bw_cX11_sure_2 13 rfl rfl
theorem dX11_sure_62 : decode cX11_sure 62 = .ok (.getfield 26, 3) := dq180 bw_cX11_sure_2 14 rfl rfl rfl
theorem dX11_sure_65 : decode cX11_sure 65 = .ok (.aload_n 0, 1) := dq42 bw_cX11_sure_2 17 rfl rfl
theorem dX11_sure_66 : decode cX11_sure 66 = .ok (.getfield 77, 3) := dq180 bw_cX11_sure_2 18 rfl rfl rfl
theorem dX11_sure_69 : decode cX11_sure 69 = .ok (.getfield 350, 3) := dq180 bw_cX11_sure_2 21 rfl rfl rfl
theorem bw_cX11_sure_3 : dq_w cX11_sure 72 [21, 4, 184, 1, 103, 182, 0, 231, 132, 4, 1, 167, 255, 211, 29, 172] = true := by decide +kernel
theorem dX11_sure_72 : decode cX11_sure 72 = .ok (.iload 4, 2) := dq21 bw_cX11_sure_3 0 rfl rfl
theorem dX11_sure_74 : decode cX11_sure 74 = .ok (.invokestatic 359, 3) := dq184 bw_cX11_sure_3 2 rfl rfl rfl
theorem dX11_sure_77 : decode cX11_sure 77 = .ok (.invokevirtual 231, 3) := dq182 bw_cX11_sure_3 5 rfl rfl rfl
theorem dX11_sure_80 : decode cX11_sure 80 = .ok (.iinc 4 1, 3) := dq132 bw_cX11_sure_3 8 rfl rfl rfl
theorem dX11_sure_83 : decode cX11_sure 83 = .ok (.goto (-45), 3) := dq167 bw_cX11_sure_3 11 rfl rfl rfl
theorem dX11_sure_86 : decode cX11_sure 86 = .ok (.iload_n 3, 1) := dq29 bw_cX11_sure_3 14 rfl rfl
theorem dX11_sure_87 : decode cX11_sure 87 = .ok (.ireturn, 1) := dq172 bw_cX11_sure_3 15 rfl rfl
theorem bw_cX0_mostLeft_0 : dq_w cX0_mostLeft 0 [3, 62, 29, 16, 6, 163, 0, 16, 42, 180, 0, 29, 29, 3, 79, 132, 3, 1, 167, 255, 240, 3, 62, 3, 54, 4, 21] = true := by decide +kernel
theorem dX0_mostLeft_0 : decode cX0_mostLeft 0 = .ok (.iconst 0, 1) := dq3 bw_cX0_mostLeft_0 0 rfl rfl
theorem dX0_mostLeft_1 : decode cX0_mostLeft 1 = .ok (.istore_n 3, 1) := dq62 bw_cX0_mostLeft_0 1 rfl rfl
theorem dX0_mostLeft_2 : decode cX0_mostLeft 2 = .ok (.iload_n 3, 1) := dq29 bw_cX0_mostLeft_0 2 rfl rfl
theorem dX0_mostLeft_3 : decode cX0_mostLeft 3 = .ok (.bipush 6, 2) := dq16 bw_cX0_mostLeft_0 3 rfl rfl rfl
theorem dX0_mostLeft_5 : decode cX0_mostLeft 5 = .ok (.if_icmp .gt 16, 3) := dq163 bw_cX0_mostLeft_0 5 rfl rfl rfl
theorem dX0_mostLeft_8 : decode cX0_mostLeft 8 = .ok (.aload_n 0, 1) := dq42 bw_cX0_mostLeft_0 8 rfl rfl
theorem dX0_mostLeft_9 : decode cX0_mostLeft 9 = .ok (.getfield 29, 3) := dq180 bw_cX0_mostLeft_0 9 rfl rfl rfl
theorem dX0_mostLeft_12 : decode cX0_mostLeft 12 = .ok (.iload_n 3, 1) := dq29 bw_cX0_mostLeft_0 12 rfl rfl
theorem dX0_mostLeft_13 : decode cX0_mostLeft 13 = .ok (.iconst 0, 1) := dq3 bw_cX0_mostLeft_0 13 rfl rfl
theorem dX0_mostLeft_14 : decode cX0_mostLeft 14 = .ok (.iastore, 1) := dq79 bw_cX0_mostLeft_0 14 rfl rfl
theorem dX0_mostLeft_15 : decode cX0_mostLeft 15 = .ok (.iinc 3 1, 3) := dq132 bw_cX0_mostLeft_0 15 rfl rfl rfl
theorem dX0_mostLeft_18 : decode cX0_mostLeft 18 = .ok (.goto (-16), 3) := dq167 bw_cX0_mostLeft_0 18 rfl rfl rfl
theorem dX0_mostLeft_21 : decode cX0_mostLeft 21 = .ok (.iconst 0, 1) := dq3 bw_cX0_mostLeft_0 21 rfl rfl
theorem dX0_mostLeft_22 : decode cX0_mostLeft 22 = .ok (.istore_n 3, 1) := dq62 bw_cX0_mostLeft_0 22 rfl rfl
theorem dX0_mostLeft_23 : decode cX0_mostLeft 23 = .ok (.iconst 0, 1) := dq3 bw_cX0_mostLeft_0 23 rfl rfl
theorem bw_cX0_mostLeft_1 : dq_w cX0_mostLeft 24 [54, 4, 21, 4, 17, 16, 0, 162, 0, 50, 42, 21, 4, 182, 0, 59, 153, 0, 35, 43, 28, 21, 4, 184, 0, 44, 54] = true := by decide +kernel
theorem dX0_mostLeft_24 : decode cX0_mostLeft 24 = .ok (.istore 4, 2) := dq54 bw_cX0_mostLeft_1 0 rfl rfl
theorem dX0_mostLeft_26 : decode cX0_mostLeft 26 = .ok (.iload 4, 2) := dq21 bw_cX0_mostLeft_1 2 rfl rfl
theorem dX0_mostLeft_28 : decode cX0_mostLeft 28 = .ok (.sipush 4096, 3) := dq17 bw_cX0_mostLeft_1 4 rfl rfl rfl
theorem dX0_mostLeft_31 : decode cX0_mostLeft 31 = .ok (.if_icmp .ge 50, 3) := dq162 bw_cX0_mostLeft_1 7 rfl rfl rfl
theorem dX0_mostLeft_34 : decode cX0_mostLeft 34 = .ok (.aload_n 0, 1) := dq42 bw_cX0_mostLeft_1 10 rfl rfl
theorem dX0_mostLeft_35 : decode cX0_mostLeft 35 = .ok (.iload 4, 2) := dq21 bw_cX0_mostLeft_1 11 rfl rfl
theorem dX0_mostLeft_37 : decode cX0_mostLeft 37 = .ok (.invokevirtual 59, 3) := dq182 bw_cX0_mostLeft_1 13 rfl rfl rfl
theorem dX0_mostLeft_40 : decode cX0_mostLeft 40 = .ok (.ifCond .eq 35, 3) := dq153 bw_cX0_mostLeft_1 16 rfl rfl rfl
theorem dX0_mostLeft_43 : decode cX0_mostLeft 43 = .ok (.aload_n 1, 1) := dq43 bw_cX0_mostLeft_1 19 rfl rfl
theorem dX0_mostLeft_44 : decode cX0_mostLeft 44 = .ok (.iload_n 2, 1) := dq28 bw_cX0_mostLeft_1 20 rfl rfl
theorem dX0_mostLeft_45 : decode cX0_mostLeft 45 = .ok (.iload 4, 2) := dq21 bw_cX0_mostLeft_1 21 rfl rfl
theorem dX0_mostLeft_47 : decode cX0_mostLeft 47 = .ok (.invokestatic 44, 3) := dq184 bw_cX0_mostLeft_1 23 rfl rfl rfl
theorem bw_cX0_mostLeft_2 : dq_w cX0_mostLeft 48 [0, 44, 54, 5, 42, 180, 0, 29, 21, 5, 92, 46, 4, 96, 79, 29, 42, 180, 0, 29, 21, 5, 46, 184, 0, 63, 62] = true := by decide +kernel
theorem dX0_mostLeft_50 : decode cX0_mostLeft 50 = .ok (.istore 5, 2) := dq54 bw_cX0_mostLeft_2 2 rfl rfl
theorem dX0_mostLeft_52 : decode cX0_mostLeft 52 = .ok (.aload_n 0, 1) := dq42 bw_cX0_mostLeft_2 4 rfl rfl
theorem dX0_mostLeft_53 : decode cX0_mostLeft 53 = .ok (.getfield 29, 3) := dq180 bw_cX0_mostLeft_2 5 rfl rfl rfl
theorem dX0_mostLeft_56 : decode cX0_mostLeft 56 = .ok (.iload 5, 2) := dq21 bw_cX0_mostLeft_2 8 rfl rfl
theorem dX0_mostLeft_58 : decode cX0_mostLeft 58 = .ok (.dup2, 1) := dq92 bw_cX0_mostLeft_2 10 rfl rfl
theorem dX0_mostLeft_59 : decode cX0_mostLeft 59 = .ok (.iaload, 1) := dq46 bw_cX0_mostLeft_2 11 rfl rfl
theorem dX0_mostLeft_60 : decode cX0_mostLeft 60 = .ok (.iconst 1, 1) := dq4 bw_cX0_mostLeft_2 12 rfl rfl
theorem dX0_mostLeft_61 : decode cX0_mostLeft 61 = .ok (.iadd, 1) := dq96 bw_cX0_mostLeft_2 13 rfl rfl
theorem dX0_mostLeft_62 : decode cX0_mostLeft 62 = .ok (.iastore, 1) := dq79 bw_cX0_mostLeft_2 14 rfl rfl
theorem dX0_mostLeft_63 : decode cX0_mostLeft 63 = .ok (.iload_n 3, 1) := dq29 bw_cX0_mostLeft_2 15 rfl rfl
theorem dX0_mostLeft_64 : decode cX0_mostLeft 64 = .ok (.aload_n 0, 1) := dq42 bw_cX0_mostLeft_2 16 rfl rfl
theorem dX0_mostLeft_65 : decode cX0_mostLeft 65 = .ok (.getfield 29, 3) := dq180 bw_cX0_mostLeft_2 17 rfl rfl rfl
theorem dX0_mostLeft_68 : decode cX0_mostLeft 68 = .ok (.iload 5, 2) := dq21 bw_cX0_mostLeft_2 20 rfl rfl
theorem dX0_mostLeft_70 : decode cX0_mostLeft 70 = .ok (.iaload, 1) := dq46 bw_cX0_mostLeft_2 22 rfl rfl
theorem dX0_mostLeft_71 : decode cX0_mostLeft 71 = .ok (.invokestatic 63, 3) := dq184 bw_cX0_mostLeft_2 23 rfl rfl rfl
theorem bw_cX0_mostLeft_3 : dq_w cX0_mostLeft 72 [0, 63, 62, 132, 4, 1, 167, 255, 204, 29, 172] = true := by decide +kernel
theorem dX0_mostLeft_74 : decode cX0_mostLeft 74 = .ok (.istore_n 3, 1) := dq62 bw_cX0_mostLeft_3 2 rfl rfl
theorem dX0_mostLeft_75 : decode cX0_mostLeft 75 = .ok (.iinc 4 1, 3) := dq132 bw_cX0_mostLeft_3 3 rfl rfl rfl
theorem dX0_mostLeft_78 : decode cX0_mostLeft 78 = .ok (.goto (-52), 3) := dq167 bw_cX0_mostLeft_3 6 rfl rfl rfl
theorem dX0_mostLeft_81 : decode cX0_mostLeft 81 = .ok (.iload_n 3, 1) := dq29 bw_cX0_mostLeft_3 9 rfl rfl
theorem dX0_mostLeft_82 : decode cX0_mostLeft 82 = .ok (.ireturn, 1) := dq172 bw_cX0_mostLeft_3 10 rfl rfl
theorem bw_cX11_next_0 : dq_w cX11_next 0 [42, 180, 0, 77, 42, 180, 0, 19, 182, 1, 88, 60, 27, 153, 0, 13, 42, 180, 0, 19, 180, 0, 168, 154, 0, 6, 16] = true := by decide +kernel
theorem dX11_next_0 : decode cX11_next 0 = .ok (.aload_n 0, 1) := dq42 bw_cX11_next_0 0 rfl rfl
theorem dX11_next_1 : decode cX11_next 1 = .ok (.getfield 77, 3) := dq180 bw_cX11_next_0 1 rfl rfl rfl
theorem dX11_next_4 : decode cX11_next 4 = .ok (.aload_n 0, 1) := dq42 bw_cX11_next_0 4 rfl rfl
theorem dX11_next_5 : decode cX11_next 5 = .ok (.getfield 19, 3) := dq180 bw_cX11_next_0 5 rfl rfl rfl
theorem dX11_next_8 : decode cX11_next 8 = .ok (.invokevirtual 344, 3) := dq182 bw_cX11_next_0 8 rfl rfl rfl
theorem dX11_next_11 : decode cX11_next 11 = .ok (.istore_n 1, 1) := dq60 bw_cX11_next_0 11 rfl rfl
theorem dX11_next_12 : decode cX11_next 12 = .ok (.iload_n 1, 1) := dq27 bw_cX11_next_0 12 rfl rfl
theorem dX11_next_13 : decode cX11_next 13 = .ok (.ifCond .eq 13, 3) := dq153 bw_cX11_next_0 13 rfl rfl rfl
theorem dX11_next_16 : decode cX11_next 16 = .ok (.aload_n 0, 1) := dq42 bw_cX11_next_0 16 rfl rfl
theorem dX11_next_17 : decode cX11_next 17 = .ok (.getfield 19, 3) := dq180 bw_cX11_next_0 17 rfl rfl rfl
theorem dX11_next_20 : decode cX11_next 20 = .ok (.getfield 168, 3) := dq180 bw_cX11_next_0 20 rfl rfl rfl
theorem dX11_next_23 : decode cX11_next 23 = .ok (.ifCond .ne 6, 3) := dq154 bw_cX11_next_0 23 rfl rfl rfl
theorem bw_cX11_next_1 : dq_w cX11_next 24 [0, 6, 16, 254, 172, 3, 61, 17, 16, 1, 62, 3, 54, 4, 21, 4, 42, 180, 0, 19, 180, 0, 168, 162, 0, 36, 42] = true := by decide +kernel
theorem dX11_next_26 : decode cX11_next 26 = .ok (.bipush (-2), 2) := dq16 bw_cX11_next_1 2 rfl rfl rfl
theorem dX11_next_28 : decode cX11_next 28 = .ok (.ireturn, 1) := dq172 bw_cX11_next_1 4 rfl rfl
theorem dX11_next_29 : decode cX11_next 29 = .ok (.iconst 0, 1) := dq3 bw_cX11_next_1 5 rfl rfl
theorem dX11_next_30 : decode cX11_next 30 = .ok (.istore_n 2, 1) := dq61 bw_cX11_next_1 6 rfl rfl
theorem dX11_next_31 : decode cX11_next 31 = .ok (.sipush 4097, 3) := dq17 bw_cX11_next_1 7 rfl rfl rfl
theorem dX11_next_34 : decode cX11_next 34 = .ok (.istore_n 3, 1) := dq62 bw_cX11_next_1 10 rfl rfl
theorem dX11_next_35 : decode cX11_next 35 = .ok (.iconst 0, 1) := dq3 bw_cX11_next_1 11 rfl rfl
theorem dX11_next_36 : decode cX11_next 36 = .ok (.istore 4, 2) := dq54 bw_cX11_next_1 12 rfl rfl
theorem dX11_next_38 : decode cX11_next 38 = .ok (.iload 4, 2) := dq21 bw_cX11_next_1 14 rfl rfl
theorem dX11_next_40 : decode cX11_next 40 = .ok (.aload_n 0, 1) := dq42 bw_cX11_next_1 16 rfl rfl
theorem dX11_next_41 : decode cX11_next 41 = .ok (.getfield 19, 3) := dq180 bw_cX11_next_1 17 rfl rfl rfl
theorem dX11_next_44 : decode cX11_next 44 = .ok (.getfield 168, 3) := dq180 bw_cX11_next_1 20 rfl rfl rfl
theorem dX11_next_47 : decode cX11_next 47 = .ok (.if_icmp .ge 36, 3) := dq162 bw_cX11_next_1 23 rfl rfl rfl
theorem bw_cX11_next_2 : dq_w cX11_next 48 [0, 36, 42, 180, 0, 77, 42, 180, 0, 19, 21, 4, 182, 1, 106, 54, 5, 21, 5, 29, 162, 0, 9, 21, 5, 62, 21] = true := by decide +kernel
theorem dX11_next_50 : decode cX11_next 50 = .ok (.aload_n 0, 1) := dq42 bw_cX11_next_2 2 rfl rfl
theorem dX11_next_51 : decode cX11_next 51 = .ok (.getfield 77, 3) := dq180 bw_cX11_next_2 3 rfl rfl rfl
theorem dX11_next_54 : decode cX11_next 54 = .ok (.aload_n 0, 1) := dq42 bw_cX11_next_2 6 rfl rfl
theorem dX11_next_55 : decode cX11_next 55 = .ok (.getfield 19, 3) := dq180 bw_cX11_next_2 7 rfl rfl rfl
theorem dX11_next_58 : decode cX11_next 58 = .ok (.iload 4, 2) := dq21 bw_cX11_next_2 10 rfl rfl
theorem dX11_next_60 : decode cX11_next 60 = .ok (.invokevirtual 362, 3) := dq182 bw_cX11_next_2 12 rfl rfl rfl
theorem dX11_next_63 : decode cX11_next 63 = .ok (.istore 5, 2) := dq54 bw_cX11_next_2 15 rfl rfl
theorem dX11_next_65 : decode cX11_next 65 = .ok (.iload 5, 2) := dq21 bw_cX11_next_2 17 rfl rfl
theorem dX11_next_67 : decode cX11_next 67 = .ok (.iload_n 3, 1) := dq29 bw_cX11_next_2 19 rfl rfl
theorem dX11_next_68 : decode cX11_next 68 = .ok (.if_icmp .ge 9, 3) := dq162 bw_cX11_next_2 20 rfl rfl rfl
theorem dX11_next_71 : decode cX11_next 71 = .ok (.iload 5, 2) := dq21 bw_cX11_next_2 23 rfl rfl
theorem bw_cX11_next_3 : dq_w cX11_next 72 [5, 62, 21, 4, 61, 132, 4, 1, 167, 255, 214, 42, 180, 0, 26, 29, 182, 0, 224, 28, 172] = true := by decide +kernel
theorem dX11_next_73 : decode cX11_next 73 = .ok (.istore_n 3, 1) := dq62 bw_cX11_next_3 1 rfl rfl
theorem dX11_next_74 : decode cX11_next 74 = .ok (.iload 4, 2) := dq21 bw_cX11_next_3 2 rfl rfl
theorem dX11_next_76 : decode cX11_next 76 = .ok (.istore_n 2, 1) := dq61 bw_cX11_next_3 4 rfl rfl
theorem dX11_next_77 : decode cX11_next 77 = .ok (.iinc 4 1, 3) := dq132 bw_cX11_next_3 5 rfl rfl rfl
theorem dX11_next_80 : decode cX11_next 80 = .ok (.goto (-42), 3) := dq167 bw_cX11_next_3 8 rfl rfl rfl
theorem dX11_next_83 : decode cX11_next 83 = .ok (.aload_n 0, 1) := dq42 bw_cX11_next_3 11 rfl rfl
theorem dX11_next_84 : decode cX11_next 84 = .ok (.getfield 26, 3) := dq180 bw_cX11_next_3 12 rfl rfl rfl
theorem dX11_next_87 : decode cX11_next 87 = .ok (.iload_n 3, 1) := dq29 bw_cX11_next_3 15 rfl rfl
theorem dX11_next_88 : decode cX11_next 88 = .ok (.invokevirtual 224, 3) := dq182 bw_cX11_next_3 16 rfl rfl rfl
theorem dX11_next_91 : decode cX11_next 91 = .ok (.iload_n 2, 1) := dq28 bw_cX11_next_3 19 rfl rfl
theorem dX11_next_92 : decode cX11_next 92 = .ok (.ireturn, 1) := dq172 bw_cX11_next_3 20 rfl rfl
theorem bw_cX0_liesOf_0 : dq_w cX0_liesOf 0 [3, 62, 3, 54, 4, 21, 4, 42, 180, 0, 9, 162, 0, 27, 42, 43, 28, 21, 4, 182, 0, 48, 153, 0, 10, 29, 4] = true := by decide +kernel
theorem dX0_liesOf_0 : decode cX0_liesOf 0 = .ok (.iconst 0, 1) := dq3 bw_cX0_liesOf_0 0 rfl rfl
theorem dX0_liesOf_1 : decode cX0_liesOf 1 = .ok (.istore_n 3, 1) := dq62 bw_cX0_liesOf_0 1 rfl rfl
theorem dX0_liesOf_2 : decode cX0_liesOf 2 = .ok (.iconst 0, 1) := dq3 bw_cX0_liesOf_0 2 rfl rfl
theorem dX0_liesOf_3 : decode cX0_liesOf 3 = .ok (.istore 4, 2) := dq54 bw_cX0_liesOf_0 3 rfl rfl
theorem dX0_liesOf_5 : decode cX0_liesOf 5 = .ok (.iload 4, 2) := dq21 bw_cX0_liesOf_0 5 rfl rfl
theorem dX0_liesOf_7 : decode cX0_liesOf 7 = .ok (.aload_n 0, 1) := dq42 bw_cX0_liesOf_0 7 rfl rfl
theorem dX0_liesOf_8 : decode cX0_liesOf 8 = .ok (.getfield 9, 3) := dq180 bw_cX0_liesOf_0 8 rfl rfl rfl
theorem dX0_liesOf_11 : decode cX0_liesOf 11 = .ok (.if_icmp .ge 27, 3) := dq162 bw_cX0_liesOf_0 11 rfl rfl rfl
theorem dX0_liesOf_14 : decode cX0_liesOf 14 = .ok (.aload_n 0, 1) := dq42 bw_cX0_liesOf_0 14 rfl rfl
theorem dX0_liesOf_15 : decode cX0_liesOf 15 = .ok (.aload_n 1, 1) := dq43 bw_cX0_liesOf_0 15 rfl rfl
theorem dX0_liesOf_16 : decode cX0_liesOf 16 = .ok (.iload_n 2, 1) := dq28 bw_cX0_liesOf_0 16 rfl rfl
theorem dX0_liesOf_17 : decode cX0_liesOf 17 = .ok (.iload 4, 2) := dq21 bw_cX0_liesOf_0 17 rfl rfl
theorem dX0_liesOf_19 : decode cX0_liesOf 19 = .ok (.invokevirtual 48, 3) := dq182 bw_cX0_liesOf_0 19 rfl rfl rfl
theorem dX0_liesOf_22 : decode cX0_liesOf 22 = .ok (.ifCond .eq 10, 3) := dq153 bw_cX0_liesOf_0 22 rfl rfl rfl
theorem bw_cX0_liesOf_1 : dq_w cX0_liesOf 24 [10, 29, 4, 21, 4, 120, 128, 62, 132, 4, 1, 167, 255, 226, 29, 172] = true := by decide +kernel
theorem dX0_liesOf_25 : decode cX0_liesOf 25 = .ok (.iload_n 3, 1) := dq29 bw_cX0_liesOf_1 1 rfl rfl
theorem dX0_liesOf_26 : decode cX0_liesOf 26 = .ok (.iconst 1, 1) := dq4 bw_cX0_liesOf_1 2 rfl rfl
theorem dX0_liesOf_27 : decode cX0_liesOf 27 = .ok (.iload 4, 2) := dq21 bw_cX0_liesOf_1 3 rfl rfl
theorem dX0_liesOf_29 : decode cX0_liesOf 29 = .ok (.ishl, 1) := dq120 bw_cX0_liesOf_1 5 rfl rfl
theorem dX0_liesOf_30 : decode cX0_liesOf 30 = .ok (.ior, 1) := dq128 bw_cX0_liesOf_1 6 rfl rfl
theorem dX0_liesOf_31 : decode cX0_liesOf 31 = .ok (.istore_n 3, 1) := dq62 bw_cX0_liesOf_1 7 rfl rfl
theorem dX0_liesOf_32 : decode cX0_liesOf 32 = .ok (.iinc 4 1, 3) := dq132 bw_cX0_liesOf_1 8 rfl rfl rfl
theorem dX0_liesOf_35 : decode cX0_liesOf 35 = .ok (.goto (-30), 3) := dq167 bw_cX0_liesOf_1 11 rfl rfl rfl
theorem dX0_liesOf_38 : decode cX0_liesOf 38 = .ok (.iload_n 3, 1) := dq29 bw_cX0_liesOf_1 14 rfl rfl
theorem dX0_liesOf_39 : decode cX0_liesOf 39 = .ok (.ireturn, 1) := dq172 bw_cX0_liesOf_1 15 rfl rfl
theorem bw_cX0_fewestLies_0 : dq_w cX0_fewestLies 0 [42, 182, 0, 52, 61, 3, 62, 29, 17, 16, 0, 162, 0, 48, 42, 43, 29, 182, 0, 68, 54, 4, 21, 4, 184, 0, 72] = true := by decide +kernel
theorem dX0_fewestLies_0 : decode cX0_fewestLies 0 = .ok (.aload_n 0, 1) := dq42 bw_cX0_fewestLies_0 0 rfl rfl
theorem dX0_fewestLies_1 : decode cX0_fewestLies 1 = .ok (.invokevirtual 52, 3) := dq182 bw_cX0_fewestLies_0 1 rfl rfl rfl
theorem dX0_fewestLies_4 : decode cX0_fewestLies 4 = .ok (.istore_n 2, 1) := dq61 bw_cX0_fewestLies_0 4 rfl rfl
theorem dX0_fewestLies_5 : decode cX0_fewestLies 5 = .ok (.iconst 0, 1) := dq3 bw_cX0_fewestLies_0 5 rfl rfl
theorem dX0_fewestLies_6 : decode cX0_fewestLies 6 = .ok (.istore_n 3, 1) := dq62 bw_cX0_fewestLies_0 6 rfl rfl
theorem dX0_fewestLies_7 : decode cX0_fewestLies 7 = .ok (.iload_n 3, 1) := dq29 bw_cX0_fewestLies_0 7 rfl rfl
theorem dX0_fewestLies_8 : decode cX0_fewestLies 8 = .ok (.sipush 4096, 3) := dq17 bw_cX0_fewestLies_0 8 rfl rfl rfl
theorem dX0_fewestLies_11 : decode cX0_fewestLies 11 = .ok (.if_icmp .ge 48, 3) := dq162 bw_cX0_fewestLies_0 11 rfl rfl rfl
theorem dX0_fewestLies_14 : decode cX0_fewestLies 14 = .ok (.aload_n 0, 1) := dq42 bw_cX0_fewestLies_0 14 rfl rfl
theorem dX0_fewestLies_15 : decode cX0_fewestLies 15 = .ok (.aload_n 1, 1) := dq43 bw_cX0_fewestLies_0 15 rfl rfl
theorem dX0_fewestLies_16 : decode cX0_fewestLies 16 = .ok (.iload_n 3, 1) := dq29 bw_cX0_fewestLies_0 16 rfl rfl
theorem dX0_fewestLies_17 : decode cX0_fewestLies 17 = .ok (.invokevirtual 68, 3) := dq182 bw_cX0_fewestLies_0 17 rfl rfl rfl
theorem dX0_fewestLies_20 : decode cX0_fewestLies 20 = .ok (.istore 4, 2) := dq54 bw_cX0_fewestLies_0 20 rfl rfl
theorem dX0_fewestLies_22 : decode cX0_fewestLies 22 = .ok (.iload 4, 2) := dq21 bw_cX0_fewestLies_0 22 rfl rfl
theorem bw_cX0_fewestLies_1 : dq_w cX0_fewestLies 24 [184, 0, 72, 28, 184, 0, 72, 100, 54, 5, 21, 5, 155, 0, 14, 21, 5, 154, 0, 12, 21, 4, 28, 162, 0, 6, 21] = true := by decide +kernel
theorem dX0_fewestLies_24 : decode cX0_fewestLies 24 = .ok (.invokestatic 72, 3) := dq184 bw_cX0_fewestLies_1 0 rfl rfl rfl
theorem dX0_fewestLies_27 : decode cX0_fewestLies 27 = .ok (.iload_n 2, 1) := dq28 bw_cX0_fewestLies_1 3 rfl rfl
theorem dX0_fewestLies_28 : decode cX0_fewestLies 28 = .ok (.invokestatic 72, 3) := dq184 bw_cX0_fewestLies_1 4 rfl rfl rfl
theorem dX0_fewestLies_31 : decode cX0_fewestLies 31 = .ok (.isub, 1) := dq100 bw_cX0_fewestLies_1 7 rfl rfl
theorem dX0_fewestLies_32 : decode cX0_fewestLies 32 = .ok (.istore 5, 2) := dq54 bw_cX0_fewestLies_1 8 rfl rfl
theorem dX0_fewestLies_34 : decode cX0_fewestLies 34 = .ok (.iload 5, 2) := dq21 bw_cX0_fewestLies_1 10 rfl rfl
theorem dX0_fewestLies_36 : decode cX0_fewestLies 36 = .ok (.ifCond .lt 14, 3) := dq155 bw_cX0_fewestLies_1 12 rfl rfl rfl
theorem dX0_fewestLies_39 : decode cX0_fewestLies 39 = .ok (.iload 5, 2) := dq21 bw_cX0_fewestLies_1 15 rfl rfl
theorem dX0_fewestLies_41 : decode cX0_fewestLies 41 = .ok (.ifCond .ne 12, 3) := dq154 bw_cX0_fewestLies_1 17 rfl rfl rfl
theorem dX0_fewestLies_44 : decode cX0_fewestLies 44 = .ok (.iload 4, 2) := dq21 bw_cX0_fewestLies_1 20 rfl rfl
theorem dX0_fewestLies_46 : decode cX0_fewestLies 46 = .ok (.iload_n 2, 1) := dq28 bw_cX0_fewestLies_1 22 rfl rfl
theorem dX0_fewestLies_47 : decode cX0_fewestLies 47 = .ok (.if_icmp .ge 6, 3) := dq162 bw_cX0_fewestLies_1 23 rfl rfl rfl
theorem bw_cX0_fewestLies_2 : dq_w cX0_fewestLies 48 [0, 6, 21, 4, 61, 132, 3, 1, 167, 255, 207, 28, 172] = true := by decide +kernel
theorem dX0_fewestLies_50 : decode cX0_fewestLies 50 = .ok (.iload 4, 2) := dq21 bw_cX0_fewestLies_2 2 rfl rfl
theorem dX0_fewestLies_52 : decode cX0_fewestLies 52 = .ok (.istore_n 2, 1) := dq61 bw_cX0_fewestLies_2 4 rfl rfl
theorem dX0_fewestLies_53 : decode cX0_fewestLies 53 = .ok (.iinc 3 1, 3) := dq132 bw_cX0_fewestLies_2 5 rfl rfl rfl
theorem dX0_fewestLies_56 : decode cX0_fewestLies 56 = .ok (.goto (-49), 3) := dq167 bw_cX0_fewestLies_2 8 rfl rfl rfl
theorem dX0_fewestLies_59 : decode cX0_fewestLies 59 = .ok (.iload_n 2, 1) := dq28 bw_cX0_fewestLies_2 11 rfl rfl
theorem dX0_fewestLies_60 : decode cX0_fewestLies 60 = .ok (.ireturn, 1) := dq172 bw_cX0_fewestLies_2 12 rfl rfl
theorem bw_cX11_lies_0 : dq_w cX11_lies 0 [42, 180, 0, 77, 42, 180, 0, 19, 182, 1, 109, 60, 42, 180, 0, 26, 27, 182, 0, 224, 27, 184, 1, 23, 172] = true := by decide +kernel
theorem dX11_lies_0 : decode cX11_lies 0 = .ok (.aload_n 0, 1) := dq42 bw_cX11_lies_0 0 rfl rfl
theorem dX11_lies_1 : decode cX11_lies 1 = .ok (.getfield 77, 3) := dq180 bw_cX11_lies_0 1 rfl rfl rfl
theorem dX11_lies_4 : decode cX11_lies 4 = .ok (.aload_n 0, 1) := dq42 bw_cX11_lies_0 4 rfl rfl
theorem dX11_lies_5 : decode cX11_lies 5 = .ok (.getfield 19, 3) := dq180 bw_cX11_lies_0 5 rfl rfl rfl
theorem dX11_lies_8 : decode cX11_lies 8 = .ok (.invokevirtual 365, 3) := dq182 bw_cX11_lies_0 8 rfl rfl rfl
theorem dX11_lies_11 : decode cX11_lies 11 = .ok (.istore_n 1, 1) := dq60 bw_cX11_lies_0 11 rfl rfl
theorem dX11_lies_12 : decode cX11_lies 12 = .ok (.aload_n 0, 1) := dq42 bw_cX11_lies_0 12 rfl rfl
theorem dX11_lies_13 : decode cX11_lies 13 = .ok (.getfield 26, 3) := dq180 bw_cX11_lies_0 13 rfl rfl rfl
theorem dX11_lies_16 : decode cX11_lies 16 = .ok (.iload_n 1, 1) := dq27 bw_cX11_lies_0 16 rfl rfl
theorem dX11_lies_17 : decode cX11_lies 17 = .ok (.invokevirtual 224, 3) := dq182 bw_cX11_lies_0 17 rfl rfl rfl
theorem dX11_lies_20 : decode cX11_lies 20 = .ok (.iload_n 1, 1) := dq27 bw_cX11_lies_0 20 rfl rfl
theorem dX11_lies_21 : decode cX11_lies 21 = .ok (.invokestatic 279, 3) := dq184 bw_cX11_lies_0 21 rfl rfl rfl
theorem bw_cX11_lies_1 : dq_w cX11_lies 24 [172] = true := by decide +kernel
theorem dX11_lies_24 : decode cX11_lies 24 = .ok (.ireturn, 1) := dq172 bw_cX11_lies_1 0 rfl rfl
theorem bw_cX0_hasWay_0 : dq_w cX0_hasWay 0 [3, 62, 29, 17, 16, 0, 162, 0, 21, 42, 43, 29, 28, 182, 0, 56, 153, 0, 5, 4, 172, 132, 3, 1, 167, 255, 234] = true := by decide +kernel
theorem dX0_hasWay_0 : decode cX0_hasWay 0 = .ok (.iconst 0, 1) := dq3 bw_cX0_hasWay_0 0 rfl rfl
theorem dX0_hasWay_1 : decode cX0_hasWay 1 = .ok (.istore_n 3, 1) := dq62 bw_cX0_hasWay_0 1 rfl rfl
theorem dX0_hasWay_2 : decode cX0_hasWay 2 = .ok (.iload_n 3, 1) := dq29 bw_cX0_hasWay_0 2 rfl rfl
theorem dX0_hasWay_3 : decode cX0_hasWay 3 = .ok (.sipush 4096, 3) := dq17 bw_cX0_hasWay_0 3 rfl rfl rfl
theorem dX0_hasWay_6 : decode cX0_hasWay 6 = .ok (.if_icmp .ge 21, 3) := dq162 bw_cX0_hasWay_0 6 rfl rfl rfl
theorem dX0_hasWay_9 : decode cX0_hasWay 9 = .ok (.aload_n 0, 1) := dq42 bw_cX0_hasWay_0 9 rfl rfl
theorem dX0_hasWay_10 : decode cX0_hasWay 10 = .ok (.aload_n 1, 1) := dq43 bw_cX0_hasWay_0 10 rfl rfl
theorem dX0_hasWay_11 : decode cX0_hasWay 11 = .ok (.iload_n 3, 1) := dq29 bw_cX0_hasWay_0 11 rfl rfl
theorem dX0_hasWay_12 : decode cX0_hasWay 12 = .ok (.iload_n 2, 1) := dq28 bw_cX0_hasWay_0 12 rfl rfl
theorem dX0_hasWay_13 : decode cX0_hasWay 13 = .ok (.invokevirtual 56, 3) := dq182 bw_cX0_hasWay_0 13 rfl rfl rfl
theorem dX0_hasWay_16 : decode cX0_hasWay 16 = .ok (.ifCond .eq 5, 3) := dq153 bw_cX0_hasWay_0 16 rfl rfl rfl
theorem dX0_hasWay_19 : decode cX0_hasWay 19 = .ok (.iconst 1, 1) := dq4 bw_cX0_hasWay_0 19 rfl rfl
theorem dX0_hasWay_20 : decode cX0_hasWay 20 = .ok (.ireturn, 1) := dq172 bw_cX0_hasWay_0 20 rfl rfl
theorem dX0_hasWay_21 : decode cX0_hasWay 21 = .ok (.iinc 3 1, 3) := dq132 bw_cX0_hasWay_0 21 rfl rfl rfl
theorem bw_cX0_hasWay_1 : dq_w cX0_hasWay 24 [167, 255, 234, 3, 172] = true := by decide +kernel
theorem dX0_hasWay_24 : decode cX0_hasWay 24 = .ok (.goto (-22), 3) := dq167 bw_cX0_hasWay_1 0 rfl rfl rfl
theorem dX0_hasWay_27 : decode cX0_hasWay 27 = .ok (.iconst 0, 1) := dq3 bw_cX0_hasWay_1 3 rfl rfl
theorem dX0_hasWay_28 : decode cX0_hasWay 28 = .ok (.ireturn, 1) := dq172 bw_cX0_hasWay_1 4 rfl rfl
theorem bw_cX0_firstWithoutWays_0 : dq_w cX0_firstWithoutWays 0 [3, 61, 28, 42, 180, 0, 9, 162, 0, 24, 42, 43, 5, 28, 120, 4, 100, 182, 0, 78, 154, 0, 5, 28, 172, 132, 2] = true := by decide +kernel
theorem dX0_firstWithoutWays_0 : decode cX0_firstWithoutWays 0 = .ok (.iconst 0, 1) := dq3 bw_cX0_firstWithoutWays_0 0 rfl rfl
theorem dX0_firstWithoutWays_1 : decode cX0_firstWithoutWays 1 = .ok (.istore_n 2, 1) := dq61 bw_cX0_firstWithoutWays_0 1 rfl rfl
theorem dX0_firstWithoutWays_2 : decode cX0_firstWithoutWays 2 = .ok (.iload_n 2, 1) := dq28 bw_cX0_firstWithoutWays_0 2 rfl rfl
theorem dX0_firstWithoutWays_3 : decode cX0_firstWithoutWays 3 = .ok (.aload_n 0, 1) := dq42 bw_cX0_firstWithoutWays_0 3 rfl rfl
theorem dX0_firstWithoutWays_4 : decode cX0_firstWithoutWays 4 = .ok (.getfield 9, 3) := dq180 bw_cX0_firstWithoutWays_0 4 rfl rfl rfl
theorem dX0_firstWithoutWays_7 : decode cX0_firstWithoutWays 7 = .ok (.if_icmp .ge 24, 3) := dq162 bw_cX0_firstWithoutWays_0 7 rfl rfl rfl
theorem dX0_firstWithoutWays_10 : decode cX0_firstWithoutWays 10 = .ok (.aload_n 0, 1) := dq42 bw_cX0_firstWithoutWays_0 10 rfl rfl
theorem dX0_firstWithoutWays_11 : decode cX0_firstWithoutWays 11 = .ok (.aload_n 1, 1) := dq43 bw_cX0_firstWithoutWays_0 11 rfl rfl
theorem dX0_firstWithoutWays_12 : decode cX0_firstWithoutWays 12 = .ok (.iconst 2, 1) := dq5 bw_cX0_firstWithoutWays_0 12 rfl rfl
theorem dX0_firstWithoutWays_13 : decode cX0_firstWithoutWays 13 = .ok (.iload_n 2, 1) := dq28 bw_cX0_firstWithoutWays_0 13 rfl rfl
theorem dX0_firstWithoutWays_14 : decode cX0_firstWithoutWays 14 = .ok (.ishl, 1) := dq120 bw_cX0_firstWithoutWays_0 14 rfl rfl
theorem dX0_firstWithoutWays_15 : decode cX0_firstWithoutWays 15 = .ok (.iconst 1, 1) := dq4 bw_cX0_firstWithoutWays_0 15 rfl rfl
theorem dX0_firstWithoutWays_16 : decode cX0_firstWithoutWays 16 = .ok (.isub, 1) := dq100 bw_cX0_firstWithoutWays_0 16 rfl rfl
theorem dX0_firstWithoutWays_17 : decode cX0_firstWithoutWays 17 = .ok (.invokevirtual 78, 3) := dq182 bw_cX0_firstWithoutWays_0 17 rfl rfl rfl
theorem dX0_firstWithoutWays_20 : decode cX0_firstWithoutWays 20 = .ok (.ifCond .ne 5, 3) := dq154 bw_cX0_firstWithoutWays_0 20 rfl rfl rfl
theorem dX0_firstWithoutWays_23 : decode cX0_firstWithoutWays 23 = .ok (.iload_n 2, 1) := dq28 bw_cX0_firstWithoutWays_0 23 rfl rfl
theorem bw_cX0_firstWithoutWays_1 : dq_w cX0_firstWithoutWays 24 [172, 132, 2, 1, 167, 255, 230, 2, 172] = true := by decide +kernel
theorem dX0_firstWithoutWays_24 : decode cX0_firstWithoutWays 24 = .ok (.ireturn, 1) := dq172 bw_cX0_firstWithoutWays_1 0 rfl rfl
theorem dX0_firstWithoutWays_25 : decode cX0_firstWithoutWays 25 = .ok (.iinc 2 1, 3) := dq132 bw_cX0_firstWithoutWays_1 1 rfl rfl rfl
theorem dX0_firstWithoutWays_28 : decode cX0_firstWithoutWays 28 = .ok (.goto (-26), 3) := dq167 bw_cX0_firstWithoutWays_1 4 rfl rfl rfl
theorem dX0_firstWithoutWays_31 : decode cX0_firstWithoutWays 31 = .ok (.iconst (-1), 1) := dq2 bw_cX0_firstWithoutWays_1 7 rfl rfl
theorem dX0_firstWithoutWays_32 : decode cX0_firstWithoutWays 32 = .ok (.ireturn, 1) := dq172 bw_cX0_firstWithoutWays_1 8 rfl rfl
theorem bw_cX0_firstAgainst_0 : dq_w cX0_firstAgainst 0 [3, 62, 29, 28, 162, 0, 26, 42, 43, 4, 29, 120, 4, 28, 120, 128, 182, 0, 78, 154, 0, 5, 29, 172, 132, 3, 1] = true := by decide +kernel
theorem dX0_firstAgainst_0 : decode cX0_firstAgainst 0 = .ok (.iconst 0, 1) := dq3 bw_cX0_firstAgainst_0 0 rfl rfl
theorem dX0_firstAgainst_1 : decode cX0_firstAgainst 1 = .ok (.istore_n 3, 1) := dq62 bw_cX0_firstAgainst_0 1 rfl rfl
theorem dX0_firstAgainst_2 : decode cX0_firstAgainst 2 = .ok (.iload_n 3, 1) := dq29 bw_cX0_firstAgainst_0 2 rfl rfl
theorem dX0_firstAgainst_3 : decode cX0_firstAgainst 3 = .ok (.iload_n 2, 1) := dq28 bw_cX0_firstAgainst_0 3 rfl rfl
theorem dX0_firstAgainst_4 : decode cX0_firstAgainst 4 = .ok (.if_icmp .ge 26, 3) := dq162 bw_cX0_firstAgainst_0 4 rfl rfl rfl
theorem dX0_firstAgainst_7 : decode cX0_firstAgainst 7 = .ok (.aload_n 0, 1) := dq42 bw_cX0_firstAgainst_0 7 rfl rfl
theorem dX0_firstAgainst_8 : decode cX0_firstAgainst 8 = .ok (.aload_n 1, 1) := dq43 bw_cX0_firstAgainst_0 8 rfl rfl
theorem dX0_firstAgainst_9 : decode cX0_firstAgainst 9 = .ok (.iconst 1, 1) := dq4 bw_cX0_firstAgainst_0 9 rfl rfl
theorem dX0_firstAgainst_10 : decode cX0_firstAgainst 10 = .ok (.iload_n 3, 1) := dq29 bw_cX0_firstAgainst_0 10 rfl rfl
theorem dX0_firstAgainst_11 : decode cX0_firstAgainst 11 = .ok (.ishl, 1) := dq120 bw_cX0_firstAgainst_0 11 rfl rfl
theorem dX0_firstAgainst_12 : decode cX0_firstAgainst 12 = .ok (.iconst 1, 1) := dq4 bw_cX0_firstAgainst_0 12 rfl rfl
theorem dX0_firstAgainst_13 : decode cX0_firstAgainst 13 = .ok (.iload_n 2, 1) := dq28 bw_cX0_firstAgainst_0 13 rfl rfl
theorem dX0_firstAgainst_14 : decode cX0_firstAgainst 14 = .ok (.ishl, 1) := dq120 bw_cX0_firstAgainst_0 14 rfl rfl
theorem dX0_firstAgainst_15 : decode cX0_firstAgainst 15 = .ok (.ior, 1) := dq128 bw_cX0_firstAgainst_0 15 rfl rfl
theorem dX0_firstAgainst_16 : decode cX0_firstAgainst 16 = .ok (.invokevirtual 78, 3) := dq182 bw_cX0_firstAgainst_0 16 rfl rfl rfl
theorem dX0_firstAgainst_19 : decode cX0_firstAgainst 19 = .ok (.ifCond .ne 5, 3) := dq154 bw_cX0_firstAgainst_0 19 rfl rfl rfl
theorem dX0_firstAgainst_22 : decode cX0_firstAgainst 22 = .ok (.iload_n 3, 1) := dq29 bw_cX0_firstAgainst_0 22 rfl rfl
theorem dX0_firstAgainst_23 : decode cX0_firstAgainst 23 = .ok (.ireturn, 1) := dq172 bw_cX0_firstAgainst_0 23 rfl rfl
theorem bw_cX0_firstAgainst_1 : dq_w cX0_firstAgainst 24 [132, 3, 1, 167, 255, 231, 2, 172] = true := by decide +kernel
theorem dX0_firstAgainst_24 : decode cX0_firstAgainst 24 = .ok (.iinc 3 1, 3) := dq132 bw_cX0_firstAgainst_1 0 rfl rfl rfl
theorem dX0_firstAgainst_27 : decode cX0_firstAgainst 27 = .ok (.goto (-25), 3) := dq167 bw_cX0_firstAgainst_1 3 rfl rfl rfl
theorem dX0_firstAgainst_30 : decode cX0_firstAgainst 30 = .ok (.iconst (-1), 1) := dq2 bw_cX0_firstAgainst_1 6 rfl rfl
theorem dX0_firstAgainst_31 : decode cX0_firstAgainst 31 = .ok (.ireturn, 1) := dq172 bw_cX0_firstAgainst_1 7 rfl rfl
theorem bw_cX11_quarrel_0 : dq_w cX11_quarrel 0 [42, 180, 0, 77, 42, 180, 0, 19, 182, 1, 112, 60, 27, 156, 0, 6, 16, 254, 172, 42, 180, 0, 26, 42, 180, 0, 77] = true := by decide +kernel
theorem dX11_quarrel_0 : decode cX11_quarrel 0 = .ok (.aload_n 0, 1) := dq42 bw_cX11_quarrel_0 0 rfl rfl
