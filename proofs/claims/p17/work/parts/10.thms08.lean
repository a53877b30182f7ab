set_option maxRecDepth 10000 in
theorem tX12_again {l : Launch} {al : Bool} (x1 : Int32) (m : sm_S) (r : Int32 × sm_S) (hf : fX12_again x1 m = some r) : sm_Rt l mX12_again 2 0 0 al al [.ref 72, .int x1] (sm_hp m) (some (.int r.1), sm_hp r.2) := by
  refine sm_Rt.ofW (L := [.ref 72, .int x1, .retAddr 0, .retAddr 0]) (by decide) (Nat.le_of_ble_eq_true rfl) rfl ?_
  unfold fX12_again at hf
  refine w_blk bX12_again_0 [.ref 72, .int x1, .retAddr 0, .retAddr 0] [.long (2 : Int64), .long (0 : Int64), .long (x1).toInt64] (sm_hp (sm_w1 m 72 0 (0 : Int32))) [] rfl (sm_on) ?_
  replace hf := sm_bd hf
  obtain ⟨r2, q1, hf⟩ := hf
  refine w_callS [.long (x1).toInt64, .long (0 : Int64), .long (2 : Int64)] [] (tX12_in (x1).toInt64 (0 : Int64) (2 : Int64) (sm_w1 m 72 0 (0 : Int32)) r2 q1) (csX12_17 rfl) dX12_again_11 rfl rfl (by decide) (by decide) (Nat.le_of_ble_eq_true rfl) ?_
  show sm_W _ _ _ _ _ 14 [.ref 72, .int x1, .retAddr 0, .retAddr 0] [.int r2] (sm_hp (sm_w1 m 72 0 (0 : Int32)))
  refine w_if_eq (tgt := 26) dX12_again_14 rfl (fun hc => ?_) (fun hc => ?_)
  · replace hf := sm_ift hc hf
    refine w_blk bX12_again_26 [.ref 72, .int x1, .retAddr 0, .retAddr 0] [.int (0 : Int32)] (sm_hp (sm_w1 m 72 0 (0 : Int32))) [] rfl (sm_on) ?_
    obtain rfl := Option.some.inj hf
    exact w_reti dX12_again_27 rfl sm_nb0
  · replace hf := sm_iff hc hf
    replace hf := sm_ck hf
    obtain ⟨q3, hf⟩ := hf
    refine w_blk bX12_again_17 [.ref 72, .int x1, .retAddr 0, .retAddr 0] [.int (m.1 105 (x1).toNatClampNeg)] (sm_hp (sm_w1 m 72 0 (0 : Int32))) [(x1, 3)] rfl (sm_oc q3 (sm_on)) ?_
    refine w_if_ne (tgt := 28) dX12_again_23 rfl (fun hc => ?_) (fun hc => ?_)
    · replace hf := sm_iff hc hf
      replace hf := sm_ck hf
      obtain ⟨q4, hf⟩ := hf
      replace hf := sm_ck hf
      obtain ⟨q5, hf⟩ := hf
      refine w_blk bX12_again_28 [.ref 72, .int x1, .int ((16 : Int32) * x1), .int (0 : Int32)] [] (sm_hp (sm_w1 (sm_w1 (sm_w1 m 72 0 (0 : Int32)) 72 17 (m.1 106 ((16 : Int32) * x1).toNatClampNeg)) 72 18 (m.1 106 (((16 : Int32) * x1) + (1 : Int32)).toNatClampNeg))) [(((16 : Int32) * x1), 48), ((((16 : Int32) * x1) + (1 : Int32)), 48)] rfl (sm_oc q4 (sm_oc q5 (sm_on))) ?_
      refine w_wk [true, false, true, true] ?_
      exact tX12_again_57 sm_fu ((16 : Int32) * x1) (0 : Int32) (sm_w1 (sm_w1 (sm_w1 m 72 0 (0 : Int32)) 72 17 (m.1 106 ((16 : Int32) * x1).toNatClampNeg)) 72 18 (m.1 106 (((16 : Int32) * x1) + (1 : Int32)).toNatClampNeg)) r hf
    · replace hf := sm_ift hc hf
      refine w_blk bX12_again_26 [.ref 72, .int x1, .retAddr 0, .retAddr 0] [.int (0 : Int32)] (sm_hp (sm_w1 m 72 0 (0 : Int32))) [] rfl (sm_on) ?_
      obtain rfl := Option.some.inj hf
      exact w_reti dX12_again_27 rfl sm_nb0
set_option maxRecDepth 10000 in
theorem tX12_count {l : Launch} {al : Bool} (x1 : Int32) (m : sm_S) (r : Int32 × sm_S) (hf : fX12_count x1 m = some r) : sm_Rt l mX12_count 1 0 0 al al [.ref 72, .int x1] (sm_hp m) (some (.int r.1), sm_hp r.2) := by
  refine sm_Rt.ofW (L := [.ref 72, .int x1]) (by decide) (Nat.le_of_ble_eq_true rfl) rfl ?_
  unfold fX12_count at hf
  refine w_blk bX12_count_0 [.ref 72, .int x1] [.int x1] (sm_hp (sm_w1 m 72 0 (0 : Int32))) [] rfl (sm_on) ?_
  by_cases hc1 : x1 = (0 : Int32)
  · replace hf := sm_ift hc1 hf
    refine w_tableIn (off := 54) (tgt := 60) dX12_count_6 (by rw [hc1]; decide) (by rw [hc1]; decide) (by rw [hc1]; rfl) rfl ?_
    refine w_blk bX12_count_60 [.ref 72, .int x1] [.int (m.1 72 3)] (sm_hp (sm_w1 m 72 0 (0 : Int32))) [] rfl (sm_on) ?_
    obtain rfl := Option.some.inj hf
    exact w_reti dX12_count_64 rfl rfl
  · replace hf := sm_iff hc1 hf
    by_cases hc2 : x1 = (1 : Int32)
    · replace hf := sm_ift hc2 hf
      refine w_tableIn (off := 59) (tgt := 65) dX12_count_6 (by rw [hc2]; decide) (by rw [hc2]; decide) (by rw [hc2]; rfl) rfl ?_
      refine w_blk bX12_count_65 [.ref 72, .int x1] [.int (m.1 72 6)] (sm_hp (sm_w1 m 72 0 (0 : Int32))) [] rfl (sm_on) ?_
      obtain rfl := Option.some.inj hf
      exact w_reti dX12_count_69 rfl rfl
    · replace hf := sm_iff hc2 hf
      by_cases hc3 : x1 = (2 : Int32)
      · replace hf := sm_ift hc3 hf
        refine w_tableIn (off := 64) (tgt := 70) dX12_count_6 (by rw [hc3]; decide) (by rw [hc3]; decide) (by rw [hc3]; rfl) rfl ?_
        refine w_blk bX12_count_70 [.ref 72, .int x1] [.int (m.1 72 3)] (sm_hp (sm_w1 m 72 0 (0 : Int32))) [] rfl (sm_on) ?_
        refine w_if_ne (tgt := 81) dX12_count_74 rfl (fun hc => ?_) (fun hc => ?_)
        · replace hf := sm_iff hc hf
          refine w_blk bX12_count_81 [.ref 72, .int x1] [.int (m.1 72 17)] (sm_hp (sm_w1 m 72 0 (0 : Int32))) [] rfl (sm_on) ?_
          obtain rfl := Option.some.inj hf
          exact w_reti dX12_count_85 rfl rfl
        · replace hf := sm_ift hc hf
          refine w_blk bX12_count_77 [.ref 72, .int x1] [.int (-1 : Int32)] (sm_hp (sm_w1 m 72 0 (0 : Int32))) [] rfl (sm_on) ?_
          refine w_goto (tgt := 85) dX12_count_78 rfl ?_
          obtain rfl := Option.some.inj hf
          exact w_reti dX12_count_85 rfl rfl
      · replace hf := sm_iff hc3 hf
        by_cases hc4 : x1 = (3 : Int32)
        · replace hf := sm_ift hc4 hf
          refine w_tableIn (off := 80) (tgt := 86) dX12_count_6 (by rw [hc4]; decide) (by rw [hc4]; decide) (by rw [hc4]; rfl) rfl ?_
          refine w_blk bX12_count_86 [.ref 72, .int x1] [.int (m.1 72 18)] (sm_hp (sm_w1 m 72 0 (0 : Int32))) [] rfl (sm_on) ?_
          obtain rfl := Option.some.inj hf
          exact w_reti dX12_count_90 rfl rfl
        · replace hf := sm_iff hc4 hf
          by_cases hc5 : x1 = (4 : Int32)
          · replace hf := sm_ift hc5 hf
            refine w_tableIn (off := 85) (tgt := 91) dX12_count_6 (by rw [hc5]; decide) (by rw [hc5]; decide) (by rw [hc5]; rfl) rfl ?_
            refine w_blk bX12_count_91 [.ref 72, .int x1] [.int (m.1 72 27)] (sm_hp (sm_w1 m 72 0 (0 : Int32))) [] rfl (sm_on) ?_
            obtain rfl := Option.some.inj hf
            exact w_reti dX12_count_95 rfl rfl
          · replace hf := sm_iff hc5 hf
            by_cases hc6 : x1 = (5 : Int32)
            · replace hf := sm_ift hc6 hf
              refine w_tableIn (off := 90) (tgt := 96) dX12_count_6 (by rw [hc6]; decide) (by rw [hc6]; decide) (by rw [hc6]; rfl) rfl ?_
              refine w_blk bX12_count_96 [.ref 72, .int x1] [.int (m.1 72 51)] (sm_hp (sm_w1 m 72 0 (0 : Int32))) [] rfl (sm_on) ?_
              obtain rfl := Option.some.inj hf
              exact w_reti dX12_count_100 rfl rfl
            · replace hf := sm_iff hc6 hf
              by_cases hc7 : x1 = (6 : Int32)
              · replace hf := sm_ift hc7 hf
                refine w_tableIn (off := 95) (tgt := 101) dX12_count_6 (by rw [hc7]; decide) (by rw [hc7]; decide) (by rw [hc7]; rfl) rfl ?_
                refine w_blk bX12_count_101 [.ref 72, .int x1] [.int (m.1 72 1)] (sm_hp (sm_w1 m 72 0 (0 : Int32))) [] rfl (sm_on) ?_
                obtain rfl := Option.some.inj hf
                exact w_reti dX12_count_105 rfl rfl
              · replace hf := sm_iff hc7 hf
                by_cases hc8 : x1 = (7 : Int32)
                · replace hf := sm_ift hc8 hf
                  refine w_tableIn (off := 100) (tgt := 106) dX12_count_6 (by rw [hc8]; decide) (by rw [hc8]; decide) (by rw [hc8]; rfl) rfl ?_
                  refine w_blk bX12_count_106 [.ref 72, .int x1] [.int (m.1 72 21)] (sm_hp (sm_w1 m 72 0 (0 : Int32))) [] rfl (sm_on) ?_
                  obtain rfl := Option.some.inj hf
                  exact w_reti dX12_count_110 rfl rfl
                · replace hf := sm_iff hc8 hf
                  by_cases hc9 : x1 = (8 : Int32)
                  · replace hf := sm_ift hc9 hf
                    refine w_tableIn (off := 105) (tgt := 111) dX12_count_6 (by rw [hc9]; decide) (by rw [hc9]; decide) (by rw [hc9]; rfl) rfl ?_
                    refine w_blk bX12_count_111 [.ref 72, .int x1] [.int (m.1 72 15)] (sm_hp (sm_w1 m 72 0 (0 : Int32))) [] rfl (sm_on) ?_
                    obtain rfl := Option.some.inj hf
                    exact w_reti dX12_count_115 rfl rfl
                  · replace hf := sm_iff hc9 hf
                    by_cases hc10 : x1 = (9 : Int32)
                    · replace hf := sm_ift hc10 hf
                      refine w_tableIn (off := 110) (tgt := 116) dX12_count_6 (by rw [hc10]; decide) (by rw [hc10]; decide) (by rw [hc10]; rfl) rfl ?_
                      refine w_blk bX12_count_116 [.ref 72, .int x1] [.int (m.1 72 16)] (sm_hp (sm_w1 m 72 0 (0 : Int32))) [] rfl (sm_on) ?_
                      obtain rfl := Option.some.inj hf
                      exact w_reti dX12_count_120 rfl rfl
                    · replace hf := sm_iff hc10 hf
                      refine w_tableOut (tgt := 121) dX12_count_6 (sm_tab (n := 9) [(0 : Int32), (1 : Int32), (2 : Int32), (3 : Int32), (4 : Int32), (5 : Int32), (6 : Int32), (7 : Int32), (8 : Int32), (9 : Int32)] (by decide) (List.forall_mem_cons.mpr ⟨hc1, List.forall_mem_cons.mpr ⟨hc2, List.forall_mem_cons.mpr ⟨hc3, List.forall_mem_cons.mpr ⟨hc4, List.forall_mem_cons.mpr ⟨hc5, List.forall_mem_cons.mpr ⟨hc6, List.forall_mem_cons.mpr ⟨hc7, List.forall_mem_cons.mpr ⟨hc8, List.forall_mem_cons.mpr ⟨hc9, List.forall_mem_cons.mpr ⟨hc10, fun _ h => absurd h List.not_mem_nil⟩⟩⟩⟩⟩⟩⟩⟩⟩⟩)) rfl ?_
                      refine w_blk bX12_count_121 [.ref 72, .int x1] [.int (-1 : Int32)] (sm_hp (sm_w1 m 72 0 (0 : Int32))) [] rfl (sm_on) ?_
                      obtain rfl := Option.some.inj hf
                      exact w_reti dX12_count_122 rfl rfl
set_option maxRecDepth 10000 in
theorem tX12_row {l : Launch} {al : Bool} (x1 : Int32) (m : sm_S) (r : Int32 × sm_S) (hf : fX12_row x1 m = some r) : sm_Rt l mX12_row 2 0 0 al al [.ref 72, .int x1] (sm_hp m) (some (.int r.1), sm_hp r.2) := by
  refine sm_Rt.ofW (L := [.ref 72, .int x1]) (by decide) (Nat.le_of_ble_eq_true rfl) rfl ?_
  unfold fX12_row at hf
  refine w_blk bX12_row_0 [.ref 72, .int x1] [.long (((m.1 72 1) - (1 : Int32))).toInt64, .long (0 : Int64), .long (x1).toInt64] (sm_hp (sm_w1 m 72 0 (0 : Int32))) [] rfl (sm_on) ?_
  replace hf := sm_bd hf
  obtain ⟨r2, q1, hf⟩ := hf
  refine w_callS [.long (x1).toInt64, .long (0 : Int64), .long (((m.1 72 1) - (1 : Int32))).toInt64] [] (tX12_in (x1).toInt64 (0 : Int64) (((m.1 72 1) - (1 : Int32))).toInt64 (sm_w1 m 72 0 (0 : Int32)) r2 q1) (csX12_17 rfl) dX12_row_15 rfl rfl (by decide) (by decide) (Nat.le_of_ble_eq_true rfl) ?_
  show sm_W _ _ _ _ _ 18 [.ref 72, .int x1] [.int r2] (sm_hp (sm_w1 m 72 0 (0 : Int32)))
  refine w_if_ne (tgt := 28) dX12_row_18 rfl (fun hc => ?_) (fun hc => ?_)
  · replace hf := sm_iff hc hf
    replace hf := sm_ck hf
    obtain ⟨q3, hf⟩ := hf
    refine w_blk bX12_row_28 [.ref 72, .int x1] [.int (m.1 73 (x1).toNatClampNeg)] (sm_hp (sm_w1 m 72 0 (0 : Int32))) [(x1, 24)] rfl (sm_oc q3 (sm_on)) ?_
    obtain rfl := Option.some.inj hf
    exact w_reti dX12_row_34 rfl rfl
  · replace hf := sm_ift hc hf
    refine w_blk bX12_row_21 [.ref 72, .int x1] [.int (0 : Int32)] (sm_hp (sm_w1 (sm_w1 m 72 0 (0 : Int32)) 72 0 (1 : Int32))) [] rfl (sm_on) ?_
    obtain rfl := Option.some.inj hf
    exact w_reti dX12_row_27 rfl rfl
