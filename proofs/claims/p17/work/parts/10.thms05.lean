set_option maxRecDepth 10000 in
theorem tX11_count {l : Launch} {al : Bool} (x1 : Int32) (m : sm_S) (r : Int32) (hf : fX11_count x1 m = some r) : sm_Rt l mX11_count 2 0 0 al al [.ref 0, .int x1] (sm_hp m) (some (.int r), sm_hp m) := by
  refine sm_Rt.ofW (L := [.ref 0, .int x1]) (by decide) (Nat.le_of_ble_eq_true rfl) rfl ?_
  unfold fX11_count at hf
  refine w_blk bX11_count_0 [.ref 0, .int x1] [.int x1] (sm_hp m) [] rfl (sm_on) ?_
  by_cases hc1 : x1 = (0 : Int32)
  · replace hf := sm_ift hc1 hf
    refine w_tableIn (off := 55) (tgt := 56) dX11_count_1 (by rw [hc1]; decide) (by rw [hc1]; decide) (by rw [hc1]; rfl) rfl ?_
    refine w_blk bX11_count_56 [.ref 0, .int x1] [.int (m.1 3 0)] (sm_hp m) [] rfl (sm_on) ?_
    obtain rfl := Option.some.inj hf
    exact w_reti dX11_count_63 rfl rfl
  · replace hf := sm_iff hc1 hf
    by_cases hc2 : x1 = (1 : Int32)
    · replace hf := sm_ift hc2 hf
      refine w_tableIn (off := 63) (tgt := 64) dX11_count_1 (by rw [hc2]; decide) (by rw [hc2]; decide) (by rw [hc2]; rfl) rfl ?_
      refine w_blk bX11_count_64 [.ref 0, .int x1] [.int (m.1 3 1)] (sm_hp m) [] rfl (sm_on) ?_
      obtain rfl := Option.some.inj hf
      exact w_reti dX11_count_71 rfl rfl
    · replace hf := sm_iff hc2 hf
      by_cases hc3 : x1 = (2 : Int32)
      · replace hf := sm_ift hc3 hf
        refine w_tableIn (off := 71) (tgt := 72) dX11_count_1 (by rw [hc3]; decide) (by rw [hc3]; decide) (by rw [hc3]; rfl) rfl ?_
        refine w_blk bX11_count_72 [.ref 0, .int x1] [.ref 0] (sm_hp m) [] rfl (sm_on) ?_
        replace hf := sm_bd hf
        obtain ⟨r5, q4, hf⟩ := hf
        refine w_callV [] [] (tX11_walkersCorner m r5 q4) (cvX11_267 rfl) dX11_count_73 rfl rfl (by decide) (by decide) rfl (Nat.le_of_ble_eq_true rfl) ?_
        show sm_W _ _ _ _ _ 76 [.ref 0, .int x1] [.int r5] (sm_hp m)
        obtain rfl := Option.some.inj hf
        exact w_reti dX11_count_76 rfl rfl
      · replace hf := sm_iff hc3 hf
        by_cases hc6 : x1 = (3 : Int32)
        · replace hf := sm_ift hc6 hf
          refine w_tableIn (off := 76) (tgt := 77) dX11_count_1 (by rw [hc6]; decide) (by rw [hc6]; decide) (by rw [hc6]; rfl) rfl ?_
          refine w_blk bX11_count_77 [.ref 0, .int x1] [.int (m.1 16 1)] (sm_hp m) [] rfl (sm_on) ?_
          obtain rfl := Option.some.inj hf
          exact w_reti dX11_count_84 rfl rfl
        · replace hf := sm_iff hc6 hf
          by_cases hc7 : x1 = (4 : Int32)
          · replace hf := sm_ift hc7 hf
            refine w_tableIn (off := 84) (tgt := 85) dX11_count_1 (by rw [hc7]; decide) (by rw [hc7]; decide) (by rw [hc7]; rfl) rfl ?_
            refine w_blk bX11_count_85 [.ref 0, .int x1] [.int (m.1 20 0)] (sm_hp m) [] rfl (sm_on) ?_
            obtain rfl := Option.some.inj hf
            exact w_reti dX11_count_92 rfl rfl
          · replace hf := sm_iff hc7 hf
            by_cases hc8 : x1 = (5 : Int32)
            · replace hf := sm_ift hc8 hf
              refine w_tableIn (off := 92) (tgt := 93) dX11_count_1 (by rw [hc8]; decide) (by rw [hc8]; decide) (by rw [hc8]; rfl) rfl ?_
              refine w_blk bX11_count_93 [.ref 0, .int x1] [.int (m.1 51 0)] (sm_hp m) [] rfl (sm_on) ?_
              obtain rfl := Option.some.inj hf
              exact w_reti dX11_count_100 rfl rfl
            · replace hf := sm_iff hc8 hf
              by_cases hc9 : x1 = (6 : Int32)
              · replace hf := sm_ift hc9 hf
                refine w_tableIn (off := 100) (tgt := 101) dX11_count_1 (by rw [hc9]; decide) (by rw [hc9]; decide) (by rw [hc9]; rfl) rfl ?_
                refine w_blk bX11_count_101 [.ref 0, .int x1] [.int (m.1 14 1)] (sm_hp m) [] rfl (sm_on) ?_
                obtain rfl := Option.some.inj hf
                exact w_reti dX11_count_108 rfl rfl
              · replace hf := sm_iff hc9 hf
                by_cases hc10 : x1 = (7 : Int32)
                · replace hf := sm_ift hc10 hf
                  refine w_tableIn (off := 108) (tgt := 109) dX11_count_1 (by rw [hc10]; decide) (by rw [hc10]; decide) (by rw [hc10]; rfl) rfl ?_
                  refine w_blk bX11_count_109 [.ref 0, .int x1] [.int (m.1 1 1)] (sm_hp m) [] rfl (sm_on) ?_
                  obtain rfl := Option.some.inj hf
                  exact w_reti dX11_count_116 rfl rfl
                · replace hf := sm_iff hc10 hf
                  by_cases hc11 : x1 = (8 : Int32)
                  · replace hf := sm_ift hc11 hf
                    refine w_tableIn (off := 116) (tgt := 117) dX11_count_1 (by rw [hc11]; decide) (by rw [hc11]; decide) (by rw [hc11]; rfl) rfl ?_
                    refine w_blk bX11_count_117 [.ref 0, .int x1] [.int (m.1 3 2)] (sm_hp m) [] rfl (sm_on) ?_
                    obtain rfl := Option.some.inj hf
                    exact w_reti dX11_count_124 rfl rfl
                  · replace hf := sm_iff hc11 hf
                    by_cases hc12 : x1 = (9 : Int32)
                    · replace hf := sm_ift hc12 hf
                      refine w_tableIn (off := 124) (tgt := 125) dX11_count_1 (by rw [hc12]; decide) (by rw [hc12]; decide) (by rw [hc12]; rfl) rfl ?_
                      refine w_blk bX11_count_125 [.ref 0, .int x1] [.int (m.1 3 3)] (sm_hp m) [] rfl (sm_on) ?_
                      obtain rfl := Option.some.inj hf
                      exact w_reti dX11_count_132 rfl rfl
                    · replace hf := sm_iff hc12 hf
                      refine w_tableOut (tgt := 133) dX11_count_1 (sm_tab (n := 9) [(0 : Int32), (1 : Int32), (2 : Int32), (3 : Int32), (4 : Int32), (5 : Int32), (6 : Int32), (7 : Int32), (8 : Int32), (9 : Int32)] (by decide) (List.forall_mem_cons.mpr ⟨hc1, List.forall_mem_cons.mpr ⟨hc2, List.forall_mem_cons.mpr ⟨hc3, List.forall_mem_cons.mpr ⟨hc6, List.forall_mem_cons.mpr ⟨hc7, List.forall_mem_cons.mpr ⟨hc8, List.forall_mem_cons.mpr ⟨hc9, List.forall_mem_cons.mpr ⟨hc10, List.forall_mem_cons.mpr ⟨hc11, List.forall_mem_cons.mpr ⟨hc12, fun _ h => absurd h List.not_mem_nil⟩⟩⟩⟩⟩⟩⟩⟩⟩⟩)) rfl ?_
                      refine w_blk bX11_count_133 [.ref 0, .int x1] [.int (-1 : Int32)] (sm_hp m) [] rfl (sm_on) ?_
                      obtain rfl := Option.some.inj hf
                      exact w_reti dX11_count_134 rfl rfl
set_option maxRecDepth 10000 in
theorem tX11_row {l : Launch} {al : Bool} (x1 : Int32) (m : sm_S) (r : Int32) (hf : fX11_row x1 m = some r) : sm_Rt l mX11_row 1 0 0 al al [.ref 0, .int x1] (sm_hp m) (some (.int r), sm_hp m) := by
  refine sm_Rt.ofW (L := [.ref 0, .int x1]) (by decide) (Nat.le_of_ble_eq_true rfl) rfl ?_
  unfold fX11_row at hf
  refine w_blk bX11_row_0 [.ref 0, .int x1] [.int x1] (sm_hp m) [] rfl (sm_on) ?_
  refine w_if_lt (tgt := 15) dX11_row_1 rfl (fun hc => ?_) (fun hc => ?_)
  · replace hf := sm_ift hc hf
    cases hf
  · replace hf := sm_iff hc hf
    refine w_blk bX11_row_4 [.ref 0, .int x1] [.int (m.1 14 1), .int x1] (sm_hp m) [] rfl (sm_on) ?_
    refine w_icmp_lt (tgt := 26) dX11_row_12 rfl (fun hc => ?_) (fun hc => ?_)
    · replace hf := sm_ift hc hf
      replace hf := sm_ck hf
      obtain ⟨q1, hf⟩ := hf
      refine w_blk bX11_row_26 [.ref 0, .int x1] [.int (m.1 15 (x1).toNatClampNeg)] (sm_hp m) [(x1, 14)] rfl (sm_oc q1 (sm_on)) ?_
      obtain rfl := Option.some.inj hf
      exact w_reti dX11_row_35 rfl rfl
    · replace hf := sm_iff hc hf
      cases hf
set_option maxRecDepth 10000 in
theorem tX12_sign_18 {l : Launch} {al : Bool} : ∀ (n : Nat) (v1 : Int32) (v2 : Int32) (m : sm_S) (r : Int32 × sm_S), fX12_sign_18 n v1 v2 m = some r → sm_W l mX12_sign 1 al (some (.int r.1), sm_hp r.2) 18 [.ref 72, .int v1, .int v2] [] (sm_hp m) := by
  intro n
  induction n with
  | zero =>
    intro v1 v2 m r hf
    unfold fX12_sign_18 at hf
    cases hf
  | succ n ih =>
    intro v1 v2 m r hf
    unfold fX12_sign_18 at hf
    refine w_blk bX12_sign_18 [.ref 72, .int v1, .int v2] [.int (4 : Int32), .int v2] (sm_hp m) [] rfl (sm_on) ?_
    refine w_icmp_ge (tgt := 53) dX12_sign_20 rfl (fun hc => ?_) (fun hc => ?_)
    · replace hf := sm_ift hc hf
      refine w_blk bX12_sign_53 [.ref 72, .int v1, .int v2] [.int ((m.1 72 21) + (4 : Int32))] (sm_hp (sm_w1 m 72 21 ((m.1 72 21) + (4 : Int32)))) [] rfl (sm_on) ?_
      obtain rfl := Option.some.inj hf
      exact w_reti dX12_sign_67 rfl rfl
    · replace hf := sm_iff hc hf
      replace hf := sm_ck hf
      obtain ⟨q1, hf⟩ := hf
      refine w_blk bX12_sign_23 [.ref 72, .int v1, .int (v2 + (1 : Int32))] [] (sm_hp (sm_w1 m 84 ((m.1 72 21) + v2).toNatClampNeg ((v1 >>> (((24 : Int32) - ((8 : Int32) * v2)) &&& 31)) &&& (255 : Int32)))) [(((m.1 72 21) + v2), 80)] rfl (sm_oc q1 (sm_on)) ?_
      refine w_goto (tgt := 18) dX12_sign_50 rfl ?_
      exact ih v1 (v2 + (1 : Int32)) (sm_w1 m 84 ((m.1 72 21) + v2).toNatClampNeg ((v1 >>> (((24 : Int32) - ((8 : Int32) * v2)) &&& 31)) &&& (255 : Int32))) r hf
set_option maxRecDepth 10000 in
theorem tX12_sign {l : Launch} {al : Bool} (x1 : Int32) (m : sm_S) (r : Int32 × sm_S) (hf : fX12_sign x1 m = some r) : sm_Rt l mX12_sign 1 0 0 al al [.ref 72, .int x1] (sm_hp m) (some (.int r.1), sm_hp r.2) := by
  refine sm_Rt.ofW (L := [.ref 72, .int x1, .retAddr 0]) (by decide) (Nat.le_of_ble_eq_true rfl) rfl ?_
  unfold fX12_sign at hf
  refine w_blk bX12_sign_0 [.ref 72, .int x1, .retAddr 0] [.int (76 : Int32), .int (m.1 72 21)] (sm_hp (sm_w1 m 72 0 (0 : Int32))) [] rfl (sm_on) ?_
  refine w_icmp_le (tgt := 16) dX12_sign_11 rfl (fun hc => ?_) (fun hc => ?_)
  · replace hf := sm_ift hc hf
    refine w_blk bX12_sign_16 [.ref 72, .int x1, .int (0 : Int32)] [] (sm_hp (sm_w1 m 72 0 (0 : Int32))) [] rfl (sm_on) ?_
    exact tX12_sign_18 sm_fu x1 (0 : Int32) (sm_w1 m 72 0 (0 : Int32)) r hf
  · replace hf := sm_iff hc hf
    refine w_blk bX12_sign_14 [.ref 72, .int x1, .retAddr 0] [.int (-1 : Int32)] (sm_hp (sm_w1 m 72 0 (0 : Int32))) [] rfl (sm_on) ?_
    obtain rfl := Option.some.inj hf
    exact w_reti dX12_sign_15 rfl rfl
set_option maxRecDepth 10000 in
theorem tX12_in {l : Launch} {al : Bool} (x1 : Int64) (x2 : Int64) (x3 : Int64) (m : sm_S) (r : Int32) (hf : fX12_in x1 x2 x3 m = some r) : sm_Rt l mX12_in 1 0 0 al al [.long x1, .long x2, .long x3] (sm_hp m) (some (.int r), sm_hp m) := by
  refine sm_Rt.ofW (L := [.long x1, .retAddr 0, .long x2, .retAddr 0, .long x3, .retAddr 0]) (by decide) (Nat.le_of_ble_eq_true rfl) rfl ?_
  unfold fX12_in at hf
  refine w_blk bX12_in_0 [.long x1, .retAddr 0, .long x2, .retAddr 0, .long x3, .retAddr 0] [.int (lg_cmp x1 x2)] (sm_hp m) [] rfl (sm_on) ?_
  refine w_if_lt (tgt := 17) dX12_in_3 rfl (fun hc => ?_) (fun hc => ?_)
  · replace hf := sm_ift hc hf
    refine w_blk bX12_in_17 [.long x1, .retAddr 0, .long x2, .retAddr 0, .long x3, .retAddr 0] [.int (0 : Int32)] (sm_hp m) [] rfl (sm_on) ?_
    obtain rfl := Option.some.inj hf
    exact w_reti dX12_in_18 rfl sm_nb0
  · replace hf := sm_iff hc hf
    refine w_blk bX12_in_6 [.long x1, .retAddr 0, .long x2, .retAddr 0, .long x3, .retAddr 0] [.int (lg_cmp x1 x3)] (sm_hp m) [] rfl (sm_on) ?_
    refine w_if_gt (tgt := 17) dX12_in_10 rfl (fun hc => ?_) (fun hc => ?_)
    · replace hf := sm_ift hc hf
      refine w_blk bX12_in_17 [.long x1, .retAddr 0, .long x2, .retAddr 0, .long x3, .retAddr 0] [.int (0 : Int32)] (sm_hp m) [] rfl (sm_on) ?_
      obtain rfl := Option.some.inj hf
      exact w_reti dX12_in_18 rfl sm_nb0
    · replace hf := sm_iff hc hf
      refine w_blk bX12_in_13 [.long x1, .retAddr 0, .long x2, .retAddr 0, .long x3, .retAddr 0] [.int (1 : Int32)] (sm_hp m) [] rfl (sm_on) ?_
      refine w_goto (tgt := 18) dX12_in_14 rfl ?_
      obtain rfl := Option.some.inj hf
      exact w_reti dX12_in_18 rfl sm_nb1
set_option maxRecDepth 10000 in
theorem tX12_end {l : Launch} {al : Bool} (x1 : Int32) (m : sm_S) (r : Int32 × sm_S) (hf : fX12_end x1 m = some r) : sm_Rt l mX12_end 2 0 0 al al [.ref 72, .int x1] (sm_hp m) (some (.int r.1), sm_hp r.2) := by
  refine sm_Rt.ofW (L := [.ref 72, .int x1]) (by decide) (Nat.le_of_ble_eq_true rfl) rfl ?_
  unfold fX12_end at hf
  refine w_blk bX12_end_0 [.ref 72, .int x1] [.long ((m.1 72 21)).toInt64, .long (0 : Int64), .long (x1).toInt64] (sm_hp (sm_w1 m 72 0 (0 : Int32))) [] rfl (sm_on) ?_
  replace hf := sm_bd hf
  obtain ⟨r2, q1, hf⟩ := hf
  refine w_callS [.long (x1).toInt64, .long (0 : Int64), .long ((m.1 72 21)).toInt64] [] (tX12_in (x1).toInt64 (0 : Int64) ((m.1 72 21)).toInt64 (sm_w1 m 72 0 (0 : Int32)) r2 q1) (csX12_17 rfl) dX12_end_13 rfl rfl (by decide) (by decide) (Nat.le_of_ble_eq_true rfl) ?_
  show sm_W _ _ _ _ _ 16 [.ref 72, .int x1] [.int r2] (sm_hp (sm_w1 m 72 0 (0 : Int32)))
  refine w_if_ne (tgt := 21) dX12_end_16 rfl (fun hc => ?_) (fun hc => ?_)
  · replace hf := sm_iff hc hf
    refine w_blk bX12_end_21 [.ref 72, .int x1] [.int (1 : Int32)] (sm_hp (sm_w1 (sm_w1 m 72 0 (0 : Int32)) 72 21 x1)) [] rfl (sm_on) ?_
    obtain rfl := Option.some.inj hf
    exact w_reti dX12_end_27 rfl sm_nb1
  · replace hf := sm_ift hc hf
    refine w_blk bX12_end_19 [.ref 72, .int x1] [.int (0 : Int32)] (sm_hp (sm_w1 m 72 0 (0 : Int32))) [] rfl (sm_on) ?_
    obtain rfl := Option.some.inj hf
    exact w_reti dX12_end_20 rfl sm_nb0
set_option maxRecDepth 10000 in
theorem tX12_begins {l : Launch} {al : Bool} (x1 : Int32) (m : sm_S) (r : Int32 × sm_S) (hf : fX12_begins x1 m = some r) : sm_Rt l mX12_begins 1 0 0 al al [.ref 72, .int x1] (sm_hp m) (some (.int r.1), sm_hp r.2) := by
  refine sm_Rt.ofW (L := [.ref 72, .int x1, .retAddr 0]) (by decide) (Nat.le_of_ble_eq_true rfl) rfl ?_
  unfold fX12_begins at hf
  refine w_blk bX12_begins_0 [.ref 72, .int x1, .int (m.1 72 21)] [.int (m.1 72 21)] (sm_hp (sm_w1 (sm_w1 (sm_w1 m 72 21 (0 : Int32)) 72 22 (0 : Int32)) 72 23 (if x1 < (m.1 72 21) then x1 else (m.1 72 21)))) [] rfl (sm_on) ?_
  obtain rfl := Option.some.inj hf
  exact w_reti dX12_begins_25 rfl rfl
set_option maxRecDepth 10000 in
theorem tX12_faultOf {l : Launch} {al : Bool} (x1 : Int32) (x2 : Int32) (x3 : Int32) (m : sm_S) (r : Int32) (hf : fX12_faultOf x1 x2 x3 m = some r) : sm_Rt l mX12_faultOf 1 0 0 al al [.ref 72, .int x1, .int x2, .int x3] (sm_hp m) (some (.int r), sm_hp m) := by
  refine sm_Rt.ofW (L := [.ref 72, .int x1, .int x2, .int x3, .retAddr 0]) (by decide) (Nat.le_of_ble_eq_true rfl) rfl ?_
  unfold fX12_faultOf at hf
  refine w_blk bX12_faultOf_0 [.ref 72, .int x1, .int x2, .int x3, .retAddr 0] [.int x3] (sm_hp m) [] rfl (sm_on) ?_
  refine w_if_eq (tgt := 19) dX12_faultOf_1 rfl (fun hc => ?_) (fun hc => ?_)
  · replace hf := sm_ift hc hf
    refine w_blk bX12_faultOf_19 [.ref 72, .int x1, .int x2, .int x3, .retAddr 0] [.int (0 : Int32)] (sm_hp m) [] rfl (sm_on) ?_
    refine w_blk bX12_faultOf_20 [.ref 72, .int x1, .int x2, .int x3, .int (0 : Int32)] [.int x2, .int x1] (sm_hp m) [] rfl (sm_on) ?_
    refine w_icmp_le (tgt := 44) dX12_faultOf_24 rfl (fun hc => ?_) (fun hc => ?_)
    · replace hf := sm_ift hc hf
      refine w_blk bX12_faultOf_44 [.ref 72, .int x1, .int x2, .int x3, .int (0 : Int32)] [.int (0 : Int32)] (sm_hp m) [] rfl (sm_on) ?_
      refine w_if_eq (tgt := 53) dX12_faultOf_46 rfl (fun _ => ?_) (fun hc => absurd hc (by decide))
      refine w_blk bX12_faultOf_53 [.ref 72, .int x1, .int x2, .int x3, .int (0 : Int32)] [.int ((-1 : Int32) - (m.1 72 22))] (sm_hp m) [] rfl (sm_on) ?_
      obtain rfl := Option.some.inj hf
      exact w_reti dX12_faultOf_59 rfl rfl
    · replace hf := sm_iff hc hf
      refine w_blk bX12_faultOf_27 [.ref 72, .int x1, .int x2, .int x3, .int (0 : Int32)] [.int (0 : Int32)] (sm_hp m) [] rfl (sm_on) ?_
      refine w_if_ne (tgt := 40) dX12_faultOf_29 rfl (fun hc => absurd hc (by decide)) (fun _ => ?_)
      refine w_blk bX12_faultOf_32 [.ref 72, .int x1, .int x2, .int x3, .int (0 : Int32)] [.int x2, .int (m.1 72 22)] (sm_hp m) [] rfl (sm_on) ?_
      refine w_icmp_lt (tgt := 44) dX12_faultOf_37 rfl (fun hc => ?_) (fun hc => ?_)
      · replace hf := sm_ift hc hf
        refine w_blk bX12_faultOf_44 [.ref 72, .int x1, .int x2, .int x3, .int (0 : Int32)] [.int (0 : Int32)] (sm_hp m) [] rfl (sm_on) ?_
        refine w_if_eq (tgt := 53) dX12_faultOf_46 rfl (fun _ => ?_) (fun hc => absurd hc (by decide))
        refine w_blk bX12_faultOf_53 [.ref 72, .int x1, .int x2, .int x3, .int (0 : Int32)] [.int ((-1 : Int32) - (m.1 72 22))] (sm_hp m) [] rfl (sm_on) ?_
        obtain rfl := Option.some.inj hf
        exact w_reti dX12_faultOf_59 rfl rfl
      · replace hf := sm_iff hc hf
        refine w_blk bX12_faultOf_40 [.ref 72, .int x1, .int x2, .int x3, .int (0 : Int32)] [.int ((-1 : Int32) - x2)] (sm_hp m) [] rfl (sm_on) ?_
        obtain rfl := Option.some.inj hf
        exact w_reti dX12_faultOf_43 rfl rfl
  · replace hf := sm_iff hc hf
    refine w_blk bX12_faultOf_4 [.ref 72, .int x1, .int x2, .int x3, .retAddr 0] [.int (m.1 72 23), .int (m.1 72 22)] (sm_hp m) [] rfl (sm_on) ?_
    refine w_icmp_ne (tgt := 19) dX12_faultOf_12 rfl (fun hc => ?_) (fun hc => ?_)
    · replace hf := sm_iff hc hf
      refine w_blk bX12_faultOf_19 [.ref 72, .int x1, .int x2, .int x3, .retAddr 0] [.int (0 : Int32)] (sm_hp m) [] rfl (sm_on) ?_
      refine w_blk bX12_faultOf_20 [.ref 72, .int x1, .int x2, .int x3, .int (0 : Int32)] [.int x2, .int x1] (sm_hp m) [] rfl (sm_on) ?_
      refine w_icmp_le (tgt := 44) dX12_faultOf_24 rfl (fun hc => ?_) (fun hc => ?_)
      · replace hf := sm_ift hc hf
        refine w_blk bX12_faultOf_44 [.ref 72, .int x1, .int x2, .int x3, .int (0 : Int32)] [.int (0 : Int32)] (sm_hp m) [] rfl (sm_on) ?_
        refine w_if_eq (tgt := 53) dX12_faultOf_46 rfl (fun _ => ?_) (fun hc => absurd hc (by decide))
        refine w_blk bX12_faultOf_53 [.ref 72, .int x1, .int x2, .int x3, .int (0 : Int32)] [.int ((-1 : Int32) - (m.1 72 22))] (sm_hp m) [] rfl (sm_on) ?_
        obtain rfl := Option.some.inj hf
        exact w_reti dX12_faultOf_59 rfl rfl
      · replace hf := sm_iff hc hf
        refine w_blk bX12_faultOf_27 [.ref 72, .int x1, .int x2, .int x3, .int (0 : Int32)] [.int (0 : Int32)] (sm_hp m) [] rfl (sm_on) ?_
        refine w_if_ne (tgt := 40) dX12_faultOf_29 rfl (fun hc => absurd hc (by decide)) (fun _ => ?_)
        refine w_blk bX12_faultOf_32 [.ref 72, .int x1, .int x2, .int x3, .int (0 : Int32)] [.int x2, .int (m.1 72 22)] (sm_hp m) [] rfl (sm_on) ?_
        refine w_icmp_lt (tgt := 44) dX12_faultOf_37 rfl (fun hc => ?_) (fun hc => ?_)
        · replace hf := sm_ift hc hf
          refine w_blk bX12_faultOf_44 [.ref 72, .int x1, .int x2, .int x3, .int (0 : Int32)] [.int (0 : Int32)] (sm_hp m) [] rfl (sm_on) ?_
          refine w_if_eq (tgt := 53) dX12_faultOf_46 rfl (fun _ => ?_) (fun hc => absurd hc (by decide))
          refine w_blk bX12_faultOf_53 [.ref 72, .int x1, .int x2, .int x3, .int (0 : Int32)] [.int ((-1 : Int32) - (m.1 72 22))] (sm_hp m) [] rfl (sm_on) ?_
          obtain rfl := Option.some.inj hf
          exact w_reti dX12_faultOf_59 rfl rfl
        · replace hf := sm_iff hc hf
          refine w_blk bX12_faultOf_40 [.ref 72, .int x1, .int x2, .int x3, .int (0 : Int32)] [.int ((-1 : Int32) - x2)] (sm_hp m) [] rfl (sm_on) ?_
          obtain rfl := Option.some.inj hf
          exact w_reti dX12_faultOf_43 rfl rfl
    · replace hf := sm_ift hc hf
      refine w_blk bX12_faultOf_15 [.ref 72, .int x1, .int x2, .int x3, .retAddr 0] [.int (1 : Int32)] (sm_hp m) [] rfl (sm_on) ?_
      refine w_goto (tgt := 20) dX12_faultOf_16 rfl ?_
      refine w_blk bX12_faultOf_20 [.ref 72, .int x1, .int x2, .int x3, .int (1 : Int32)] [.int x2, .int x1] (sm_hp m) [] rfl (sm_on) ?_
      refine w_icmp_le (tgt := 44) dX12_faultOf_24 rfl (fun hc => ?_) (fun hc => ?_)
      · replace hf := sm_ift hc hf
        refine w_blk bX12_faultOf_44 [.ref 72, .int x1, .int x2, .int x3, .int (1 : Int32)] [.int (1 : Int32)] (sm_hp m) [] rfl (sm_on) ?_
        refine w_if_eq (tgt := 53) dX12_faultOf_46 rfl (fun hc => absurd hc (by decide)) (fun _ => ?_)
        refine w_blk bX12_faultOf_49 [.ref 72, .int x1, .int x2, .int x3, .int (1 : Int32)] [.int (0 : Int32)] (sm_hp m) [] rfl (sm_on) ?_
        refine w_goto (tgt := 59) dX12_faultOf_50 rfl ?_
        obtain rfl := Option.some.inj hf
        exact w_reti dX12_faultOf_59 rfl rfl
      · replace hf := sm_iff hc hf
        refine w_blk bX12_faultOf_27 [.ref 72, .int x1, .int x2, .int x3, .int (1 : Int32)] [.int (1 : Int32)] (sm_hp m) [] rfl (sm_on) ?_
        refine w_if_ne (tgt := 40) dX12_faultOf_29 rfl (fun _ => ?_) (fun hc => absurd hc (by decide))
        refine w_blk bX12_faultOf_40 [.ref 72, .int x1, .int x2, .int x3, .int (1 : Int32)] [.int ((-1 : Int32) - x2)] (sm_hp m) [] rfl (sm_on) ?_
        obtain rfl := Option.some.inj hf
        exact w_reti dX12_faultOf_43 rfl rfl
set_option maxRecDepth 10000 in
theorem tX12_isAt {l : Launch} {al : Bool} (x1 : Int32) (m : sm_S) (r : Int32) (hf : fX12_isAt x1 m = some r) : sm_Rt l mX12_isAt 1 0 0 al al [.ref 72, .int x1] (sm_hp m) (some (.int r), sm_hp m) := by
  refine sm_Rt.ofW (L := [.ref 72, .int x1]) (by decide) (Nat.le_of_ble_eq_true rfl) rfl ?_
  unfold fX12_isAt at hf
  refine w_blk bX12_isAt_0 [.ref 72, .int x1] [.int (m.1 72 23), .int (m.1 72 22)] (sm_hp m) [] rfl (sm_on) ?_
  refine w_icmp_ge (tgt := 28) dX12_isAt_8 rfl (fun hc => ?_) (fun hc => ?_)
  · replace hf := sm_ift hc hf
    refine w_blk bX12_isAt_28 [.ref 72, .int x1] [.int (0 : Int32)] (sm_hp m) [] rfl (sm_on) ?_
    obtain rfl := Option.some.inj hf
    exact w_reti dX12_isAt_29 rfl sm_nb0
  · replace hf := sm_iff hc hf
    replace hf := sm_ck hf
    obtain ⟨q1, hf⟩ := hf
    refine w_blk bX12_isAt_11 [.ref 72, .int x1] [.int x1, .int (m.1 84 (m.1 72 22).toNatClampNeg)] (sm_hp m) [((m.1 72 22), 80)] rfl (sm_oc q1 (sm_on)) ?_
    refine w_icmp_ne (tgt := 28) dX12_isAt_21 rfl (fun hc => ?_) (fun hc => ?_)
    · replace hf := sm_iff hc hf
      refine w_blk bX12_isAt_28 [.ref 72, .int x1] [.int (0 : Int32)] (sm_hp m) [] rfl (sm_on) ?_
      obtain rfl := Option.some.inj hf
      exact w_reti dX12_isAt_29 rfl sm_nb0
    · replace hf := sm_ift hc hf
      refine w_blk bX12_isAt_24 [.ref 72, .int x1] [.int (1 : Int32)] (sm_hp m) [] rfl (sm_on) ?_
      refine w_goto (tgt := 29) dX12_isAt_25 rfl ?_
      obtain rfl := Option.some.inj hf
      exact w_reti dX12_isAt_29 rfl sm_nb1
set_option maxRecDepth 10000 in
theorem tX12_cornerBut {l : Launch} {al : Bool} (x1 : Int32) (m : sm_S) (r : Int32 × sm_S) (hf : fX12_cornerBut x1 m = some r) : sm_Rt l mX12_cornerBut 2 0 0 al al [.ref 72, .int x1] (sm_hp m) (some (.int r.1), sm_hp r.2) := by
  refine sm_Rt.ofW (L := [.ref 72, .int x1]) (by decide) (Nat.le_of_ble_eq_true rfl) rfl ?_
  unfold fX12_cornerBut at hf
  refine w_blk bX12_cornerBut_0 [.ref 72, .int x1] [.int (m.1 72 23), .int (m.1 72 22)] (sm_hp m) [] rfl (sm_on) ?_
  refine w_icmp_ge (tgt := 54) dX12_cornerBut_8 rfl (fun hc => ?_) (fun hc => ?_)
  · replace hf := sm_ift hc hf
    refine w_blk bX12_cornerBut_54 [.ref 72, .int x1] [.int (-1 : Int32)] (sm_hp m) [] rfl (sm_on) ?_
    obtain rfl := Option.some.inj hf
    exact w_reti dX12_cornerBut_55 rfl rfl
  · replace hf := sm_iff hc hf
    replace hf := sm_ck hf
    obtain ⟨q1, hf⟩ := hf
    refine w_blk bX12_cornerBut_11 [.ref 72, .int x1] [.long (((m.1 72 24) - (1 : Int32))).toInt64, .long (0 : Int64), .long (((m.1 84 (m.1 72 22).toNatClampNeg) - (97 : Int32))).toInt64] (sm_hp m) [((m.1 72 22), 80)] rfl (sm_oc q1 (sm_on)) ?_
    replace hf := sm_bd hf
    obtain ⟨r3, q2, hf⟩ := hf
    refine w_callS [.long (((m.1 84 (m.1 72 22).toNatClampNeg) - (97 : Int32))).toInt64, .long (0 : Int64), .long (((m.1 72 24) - (1 : Int32))).toInt64] [] (tX12_in (((m.1 84 (m.1 72 22).toNatClampNeg) - (97 : Int32))).toInt64 (0 : Int64) (((m.1 72 24) - (1 : Int32))).toInt64 m r3 q2) (csX12_17 rfl) dX12_cornerBut_32 rfl rfl (by decide) (by decide) (Nat.le_of_ble_eq_true rfl) ?_
    show sm_W _ _ _ _ _ 35 [.ref 72, .int x1] [.int r3] (sm_hp m)
    refine w_if_eq (tgt := 54) dX12_cornerBut_35 rfl (fun hc => ?_) (fun hc => ?_)
    · replace hf := sm_ift hc hf
      refine w_blk bX12_cornerBut_54 [.ref 72, .int x1] [.int (-1 : Int32)] (sm_hp m) [] rfl (sm_on) ?_
      obtain rfl := Option.some.inj hf
      exact w_reti dX12_cornerBut_55 rfl rfl
    · replace hf := sm_iff hc hf
      replace hf := sm_ck hf
      obtain ⟨q4, hf⟩ := hf
      refine w_blk bX12_cornerBut_38 [.ref 72, .int x1] [.int x1, .int ((m.1 84 (m.1 72 22).toNatClampNeg) - (97 : Int32))] (sm_hp m) [((m.1 72 22), 80)] rfl (sm_oc q4 (sm_on)) ?_
      refine w_icmp_ne (tgt := 56) dX12_cornerBut_51 rfl (fun hc => ?_) (fun hc => ?_)
      · replace hf := sm_iff hc hf
        replace hf := sm_ck hf
        obtain ⟨q5, hf⟩ := hf
        refine w_blk bX12_cornerBut_56 [.ref 72, .int x1] [.int ((m.1 84 (((m.1 72 22) + (1 : Int32)) - (1 : Int32)).toNatClampNeg) - (97 : Int32))] (sm_hp (sm_w1 m 72 22 ((m.1 72 22) + (1 : Int32)))) [((((m.1 72 22) + (1 : Int32)) - (1 : Int32)), 80)] rfl (sm_oc q5 (sm_on)) ?_
        obtain rfl := Option.some.inj hf
        exact w_reti dX12_cornerBut_80 rfl rfl
      · replace hf := sm_ift hc hf
        refine w_blk bX12_cornerBut_54 [.ref 72, .int x1] [.int (-1 : Int32)] (sm_hp m) [] rfl (sm_on) ?_
        obtain rfl := Option.some.inj hf
        exact w_reti dX12_cornerBut_55 rfl rfl
set_option maxRecDepth 10000 in
theorem tX12_isDigit {l : Launch} {al : Bool} (m : sm_S) (r : Int32) (hf : fX12_isDigit m = some r) : sm_Rt l mX12_isDigit 2 0 0 al al [.ref 72] (sm_hp m) (some (.int r), sm_hp m) := by
  refine sm_Rt.ofW (L := [.ref 72]) (by decide) (Nat.le_of_ble_eq_true rfl) rfl ?_
  unfold fX12_isDigit at hf
  refine w_blk bX12_isDigit_0 [.ref 72] [.int (m.1 72 23), .int (m.1 72 22)] (sm_hp m) [] rfl (sm_on) ?_
  refine w_icmp_ge (tgt := 37) dX12_isDigit_8 rfl (fun hc => ?_) (fun hc => ?_)
  · replace hf := sm_ift hc hf
    refine w_blk bX12_isDigit_37 [.ref 72] [.int (0 : Int32)] (sm_hp m) [] rfl (sm_on) ?_
    obtain rfl := Option.some.inj hf
    exact w_reti dX12_isDigit_38 rfl sm_nb0
  · replace hf := sm_iff hc hf
    replace hf := sm_ck hf
    obtain ⟨q1, hf⟩ := hf
    refine w_blk bX12_isDigit_11 [.ref 72] [.long (57 : Int64), .long (48 : Int64), .long ((m.1 84 (m.1 72 22).toNatClampNeg)).toInt64] (sm_hp m) [((m.1 72 22), 80)] rfl (sm_oc q1 (sm_on)) ?_
    replace hf := sm_bd hf
    obtain ⟨r3, q2, hf⟩ := hf
    refine w_callS [.long ((m.1 84 (m.1 72 22).toNatClampNeg)).toInt64, .long (48 : Int64), .long (57 : Int64)] [] (tX12_in ((m.1 84 (m.1 72 22).toNatClampNeg)).toInt64 (48 : Int64) (57 : Int64) m r3 q2) (csX12_17 rfl) dX12_isDigit_27 rfl rfl (by decide) (by decide) (Nat.le_of_ble_eq_true rfl) ?_
    show sm_W _ _ _ _ _ 30 [.ref 72] [.int r3] (sm_hp m)
    refine w_if_eq (tgt := 37) dX12_isDigit_30 rfl (fun hc => ?_) (fun hc => ?_)
    · replace hf := sm_ift hc hf
      refine w_blk bX12_isDigit_37 [.ref 72] [.int (0 : Int32)] (sm_hp m) [] rfl (sm_on) ?_
      obtain rfl := Option.some.inj hf
      exact w_reti dX12_isDigit_38 rfl sm_nb0
    · replace hf := sm_iff hc hf
      refine w_blk bX12_isDigit_33 [.ref 72] [.int (1 : Int32)] (sm_hp m) [] rfl (sm_on) ?_
      refine w_goto (tgt := 38) dX12_isDigit_34 rfl ?_
      obtain rfl := Option.some.inj hf
      exact w_reti dX12_isDigit_38 rfl sm_nb1
set_option maxRecDepth 10000 in
theorem tX12_digit {l : Launch} {al : Bool} (x1 : Int32) (m : sm_S) (r : Int32 × sm_S) (hf : fX12_digit x1 m = some r) : sm_Rt l mX12_digit 3 0 0 al al [.ref 72, .int x1] (sm_hp m) (some (.int r.1), sm_hp r.2) := by
  refine sm_Rt.ofW (L := [.ref 72, .int x1]) (by decide) (Nat.le_of_ble_eq_true rfl) rfl ?_
  unfold fX12_digit at hf
  refine w_blk bX12_digit_0 [.ref 72, .int x1] [.ref 72] (sm_hp m) [] rfl (sm_on) ?_
  replace hf := sm_bd hf
  obtain ⟨r2, q1, hf⟩ := hf
  refine w_callV [] [] (tX12_isDigit m r2 q1) (cvX12_50 rfl) dX12_digit_1 rfl rfl (by decide) (by decide) rfl (Nat.le_of_ble_eq_true rfl) ?_
  show sm_W _ _ _ _ _ 4 [.ref 72, .int x1] [.int r2] (sm_hp m)
  refine w_if_eq (tgt := 23) dX12_digit_4 rfl (fun hc => ?_) (fun hc => ?_)
  · replace hf := sm_ift hc hf
    refine w_blk bX12_digit_23 [.ref 72, .int x1] [.int (-1 : Int32)] (sm_hp m) [] rfl (sm_on) ?_
    obtain rfl := Option.some.inj hf
    exact w_reti dX12_digit_24 rfl rfl
  · replace hf := sm_iff hc hf
    replace hf := sm_ck hf
    obtain ⟨q3, hf⟩ := hf
    refine w_blk bX12_digit_7 [.ref 72, .int x1] [.int x1, .int ((m.1 84 (m.1 72 22).toNatClampNeg) - (48 : Int32))] (sm_hp m) [((m.1 72 22), 80)] rfl (sm_oc q3 (sm_on)) ?_
    refine w_icmp_le (tgt := 25) dX12_digit_20 rfl (fun hc => ?_) (fun hc => ?_)
    · replace hf := sm_ift hc hf
      replace hf := sm_ck hf
      obtain ⟨q4, hf⟩ := hf
      refine w_blk bX12_digit_25 [.ref 72, .int x1] [.int ((m.1 84 (((m.1 72 22) + (1 : Int32)) - (1 : Int32)).toNatClampNeg) - (48 : Int32))] (sm_hp (sm_w1 m 72 22 ((m.1 72 22) + (1 : Int32)))) [((((m.1 72 22) + (1 : Int32)) - (1 : Int32)), 80)] rfl (sm_oc q4 (sm_on)) ?_
      obtain rfl := Option.some.inj hf
      exact w_reti dX12_digit_49 rfl rfl
    · replace hf := sm_iff hc hf
      refine w_blk bX12_digit_23 [.ref 72, .int x1] [.int (-1 : Int32)] (sm_hp m) [] rfl (sm_on) ?_
      obtain rfl := Option.some.inj hf
      exact w_reti dX12_digit_24 rfl rfl
set_option maxRecDepth 10000 in
theorem tX12_number {l : Launch} {al : Bool} (x1 : Int32) (x2 : Int32) (m : sm_S) (r : Int32 × sm_S) (hf : fX12_number x1 x2 m = some r) : sm_Rt l mX12_number 4 0 0 al al [.ref 72, .int x1, .int x2] (sm_hp m) (some (.int r.1), sm_hp r.2) := by
  refine sm_Rt.ofW (L := [.ref 72, .int x1, .int x2, .retAddr 0]) (by decide) (Nat.le_of_ble_eq_true rfl) rfl ?_
  unfold fX12_number at hf
  refine w_blk bX12_number_0 [.ref 72, .int x1, .int x2, .retAddr 0] [.int (9 : Int32), .ref 72] (sm_hp m) [] rfl (sm_on) ?_
  replace hf := sm_bd hf
  obtain ⟨r2, q1, hf⟩ := hf
  refine w_callV [.int (9 : Int32)] [] (tX12_digit (9 : Int32) m r2 q1) (cvX12_54 rfl) dX12_number_3 rfl rfl (by decide) (by decide) rfl (Nat.le_of_ble_eq_true rfl) ?_
  show sm_W _ _ _ _ _ 6 [.ref 72, .int x1, .int x2, .retAddr 0] [.int r2.1] (sm_hp r2.2)
  refine w_blk bX12_number_6 [.ref 72, .int x1, .int x2, .int r2.1] [.int r2.1] (sm_hp r2.2) [] rfl (sm_on) ?_
  refine w_if_ge (tgt := 13) dX12_number_8 rfl (fun hc => ?_) (fun hc => ?_)
  · replace hf := sm_ift hc hf
    refine w_blk bX12_number_13 [.ref 72, .int x1, .int x2, .int r2.1] [.ref 72] (sm_hp r2.2) [] rfl (sm_on) ?_
    replace hf := sm_bd hf
    obtain ⟨r4, q3, hf⟩ := hf
    refine w_callV [] [] (tX12_isDigit r2.2 r4 q3) (cvX12_50 rfl) dX12_number_14 rfl rfl (by decide) (by decide) rfl (Nat.le_of_ble_eq_true rfl) ?_
    show sm_W _ _ _ _ _ 17 [.ref 72, .int x1, .int x2, .int r2.1] [.int r4] (sm_hp r2.2)
    refine w_if_eq (tgt := 32) dX12_number_17 rfl (fun hc => ?_) (fun hc => ?_)
    · replace hf := sm_ift hc hf
      refine w_blk bX12_number_32 [.ref 72, .int x1, .int x2, .int r2.1] [.long (x2).toInt64, .long (x1).toInt64, .long (r2.1).toInt64] (sm_hp r2.2) [] rfl (sm_on) ?_
      replace hf := sm_bd hf
      obtain ⟨r6, q5, hf⟩ := hf
      refine w_callS [.long (r2.1).toInt64, .long (x1).toInt64, .long (x2).toInt64] [] (tX12_in (r2.1).toInt64 (x1).toInt64 (x2).toInt64 r2.2 r6 q5) (csX12_17 rfl) dX12_number_38 rfl rfl (by decide) (by decide) (Nat.le_of_ble_eq_true rfl) ?_
      show sm_W _ _ _ _ _ 41 [.ref 72, .int x1, .int x2, .int r2.1] [.int r6] (sm_hp r2.2)
      refine w_if_ne (tgt := 56) dX12_number_41 rfl (fun hc => ?_) (fun hc => ?_)
      · replace hf := sm_iff hc hf
        refine w_blk bX12_number_56 [.ref 72, .int x1, .int x2, .int r2.1] [.int r2.1] (sm_hp r2.2) [] rfl (sm_on) ?_
        obtain rfl := Option.some.inj hf
        exact w_reti dX12_number_57 rfl rfl
      · replace hf := sm_ift hc hf
        refine w_blk bX12_number_44 [.ref 72, .int x1, .int x2, .int r2.1] [.int (-1 : Int32)] (sm_hp (sm_w1 r2.2 72 22 ((r2.2.1 72 22) - (1 : Int32)))) [] rfl (sm_on) ?_
        obtain rfl := Option.some.inj hf
        exact w_reti dX12_number_55 rfl rfl
    · replace hf := sm_iff hc hf
      refine w_blk bX12_number_20 [.ref 72, .int x1, .int x2, .int r2.1] [.int (9 : Int32), .ref 72, .int ((10 : Int32) * r2.1)] (sm_hp r2.2) [] rfl (sm_on) ?_
      replace hf := sm_bd hf
      obtain ⟨r8, q7, hf⟩ := hf
      refine w_callV [.int (9 : Int32)] [.int ((10 : Int32) * r2.1)] (tX12_digit (9 : Int32) r2.2 r8 q7) (cvX12_54 rfl) dX12_number_27 rfl rfl (by decide) (by decide) rfl (Nat.le_of_ble_eq_true rfl) ?_
      show sm_W _ _ _ _ _ 30 [.ref 72, .int x1, .int x2, .int r2.1] [.int r8.1, .int ((10 : Int32) * r2.1)] (sm_hp r8.2)
      refine w_blk bX12_number_30 [.ref 72, .int x1, .int x2, .int (((10 : Int32) * r2.1) + r8.1)] [] (sm_hp r8.2) [] rfl (sm_on) ?_
      refine w_blk bX12_number_32 [.ref 72, .int x1, .int x2, .int (((10 : Int32) * r2.1) + r8.1)] [.long (x2).toInt64, .long (x1).toInt64, .long ((((10 : Int32) * r2.1) + r8.1)).toInt64] (sm_hp r8.2) [] rfl (sm_on) ?_
      replace hf := sm_bd hf
      obtain ⟨r10, q9, hf⟩ := hf
      refine w_callS [.long ((((10 : Int32) * r2.1) + r8.1)).toInt64, .long (x1).toInt64, .long (x2).toInt64] [] (tX12_in ((((10 : Int32) * r2.1) + r8.1)).toInt64 (x1).toInt64 (x2).toInt64 r8.2 r10 q9) (csX12_17 rfl) dX12_number_38 rfl rfl (by decide) (by decide) (Nat.le_of_ble_eq_true rfl) ?_
      show sm_W _ _ _ _ _ 41 [.ref 72, .int x1, .int x2, .int (((10 : Int32) * r2.1) + r8.1)] [.int r10] (sm_hp r8.2)
      refine w_if_ne (tgt := 56) dX12_number_41 rfl (fun hc => ?_) (fun hc => ?_)
      · replace hf := sm_iff hc hf
        refine w_blk bX12_number_56 [.ref 72, .int x1, .int x2, .int (((10 : Int32) * r2.1) + r8.1)] [.int (((10 : Int32) * r2.1) + r8.1)] (sm_hp r8.2) [] rfl (sm_on) ?_
        obtain rfl := Option.some.inj hf
        exact w_reti dX12_number_57 rfl rfl
      · replace hf := sm_ift hc hf
        refine w_blk bX12_number_44 [.ref 72, .int x1, .int x2, .int (((10 : Int32) * r2.1) + r8.1)] [.int (-1 : Int32)] (sm_hp (sm_w1 r8.2 72 22 ((r8.2.1 72 22) - (1 : Int32)))) [] rfl (sm_on) ?_
        obtain rfl := Option.some.inj hf
        exact w_reti dX12_number_55 rfl rfl
  · replace hf := sm_iff hc hf
    refine w_blk bX12_number_11 [.ref 72, .int x1, .int x2, .int r2.1] [.int (-1 : Int32)] (sm_hp r2.2) [] rfl (sm_on) ?_
    obtain rfl := Option.some.inj hf
    exact w_reti dX12_number_12 rfl rfl
set_option maxRecDepth 10000 in
theorem tX12_flag {l : Launch} {al : Bool} (x1 : Int32) (m : sm_S) (r : Int32) (hf : fX12_flag x1 m = some r) : sm_Rt l mX12_flag 1 0 0 al al [.int x1] (sm_hp m) (some (.int r), sm_hp m) := by
  refine sm_Rt.ofW (L := [.int x1]) (by decide) (Nat.le_of_ble_eq_true rfl) rfl ?_
  unfold fX12_flag at hf
  refine w_blk bX12_flag_0 [.int x1] [.int x1] (sm_hp m) [] rfl (sm_on) ?_
  refine w_if_eq (tgt := 8) dX12_flag_1 rfl (fun hc => ?_) (fun hc => ?_)
  · replace hf := sm_ift hc hf
    refine w_blk bX12_flag_8 [.int x1] [.int (0 : Int32)] (sm_hp m) [] rfl (sm_on) ?_
    obtain rfl := Option.some.inj hf
    exact w_reti dX12_flag_9 rfl rfl
  · replace hf := sm_iff hc hf
    refine w_blk bX12_flag_4 [.int x1] [.int (1 : Int32)] (sm_hp m) [] rfl (sm_on) ?_
    refine w_goto (tgt := 9) dX12_flag_5 rfl ?_
    obtain rfl := Option.some.inj hf
    exact w_reti dX12_flag_9 rfl rfl
set_option maxRecDepth 10000 in
theorem tX12_takes {l : Launch} {al : Bool} (x1 : Int32) (m : sm_S) (r : Int32 × sm_S) (hf : fX12_takes x1 m = some r) : sm_Rt l mX12_takes 2 0 0 al al [.ref 72, .int x1] (sm_hp m) (some (.int r.1), sm_hp r.2) := by
  refine sm_Rt.ofW (L := [.ref 72, .int x1, .retAddr 0]) (by decide) (Nat.le_of_ble_eq_true rfl) rfl ?_
  unfold fX12_takes at hf
  refine w_blk bX12_takes_0 [.ref 72, .int x1, .retAddr 0] [.int (m.1 72 23), .int (m.1 72 22)] (sm_hp m) [] rfl (sm_on) ?_
  refine w_icmp_ge (tgt := 28) dX12_takes_8 rfl (fun hc => ?_) (fun hc => ?_)
  · replace hf := sm_ift hc hf
    refine w_blk bX12_takes_28 [.ref 72, .int x1, .retAddr 0] [.int (0 : Int32)] (sm_hp m) [] rfl (sm_on) ?_
    refine w_blk bX12_takes_29 [.ref 72, .int x1, .int (0 : Int32)] [.int (0 : Int32), .int (m.1 72 22), .ref 72] (sm_hp m) [] rfl (sm_on) ?_
    replace hf := sm_bd hf
    obtain ⟨r2, q1, hf⟩ := hf
    refine w_callS [.int (0 : Int32)] [.int (m.1 72 22), .ref 72] (tX12_flag (0 : Int32) m r2 q1) (csX12_42 rfl) dX12_takes_36 rfl rfl (by decide) (by decide) (Nat.le_of_ble_eq_true rfl) ?_
    show sm_W _ _ _ _ _ 39 [.ref 72, .int x1, .int (0 : Int32)] [.int r2, .int (m.1 72 22), .ref 72] (sm_hp m)
    refine w_blk bX12_takes_39 [.ref 72, .int x1, .int (0 : Int32)] [.int (0 : Int32)] (sm_hp (sm_w1 m 72 22 ((m.1 72 22) + r2))) [] rfl (sm_on) ?_
    obtain rfl := Option.some.inj hf
    exact w_reti dX12_takes_44 rfl sm_nb0
  · replace hf := sm_iff hc hf
    replace hf := sm_ck hf
    obtain ⟨q3, hf⟩ := hf
    refine w_blk bX12_takes_11 [.ref 72, .int x1, .retAddr 0] [.int x1, .int (m.1 84 (m.1 72 22).toNatClampNeg)] (sm_hp m) [((m.1 72 22), 80)] rfl (sm_oc q3 (sm_on)) ?_
    refine w_icmp_ne (tgt := 28) dX12_takes_21 rfl (fun hc => ?_) (fun hc => ?_)
    · replace hf := sm_iff hc hf
      refine w_blk bX12_takes_28 [.ref 72, .int x1, .retAddr 0] [.int (0 : Int32)] (sm_hp m) [] rfl (sm_on) ?_
      refine w_blk bX12_takes_29 [.ref 72, .int x1, .int (0 : Int32)] [.int (0 : Int32), .int (m.1 72 22), .ref 72] (sm_hp m) [] rfl (sm_on) ?_
      replace hf := sm_bd hf
      obtain ⟨r5, q4, hf⟩ := hf
      refine w_callS [.int (0 : Int32)] [.int (m.1 72 22), .ref 72] (tX12_flag (0 : Int32) m r5 q4) (csX12_42 rfl) dX12_takes_36 rfl rfl (by decide) (by decide) (Nat.le_of_ble_eq_true rfl) ?_
      show sm_W _ _ _ _ _ 39 [.ref 72, .int x1, .int (0 : Int32)] [.int r5, .int (m.1 72 22), .ref 72] (sm_hp m)
      refine w_blk bX12_takes_39 [.ref 72, .int x1, .int (0 : Int32)] [.int (0 : Int32)] (sm_hp (sm_w1 m 72 22 ((m.1 72 22) + r5))) [] rfl (sm_on) ?_
      obtain rfl := Option.some.inj hf
      exact w_reti dX12_takes_44 rfl sm_nb0
    · replace hf := sm_ift hc hf
      refine w_blk bX12_takes_24 [.ref 72, .int x1, .retAddr 0] [.int (1 : Int32)] (sm_hp m) [] rfl (sm_on) ?_
      refine w_goto (tgt := 29) dX12_takes_25 rfl ?_
      refine w_blk bX12_takes_29 [.ref 72, .int x1, .int (1 : Int32)] [.int (1 : Int32), .int (m.1 72 22), .ref 72] (sm_hp m) [] rfl (sm_on) ?_
      replace hf := sm_bd hf
      obtain ⟨r7, q6, hf⟩ := hf
      refine w_callS [.int (1 : Int32)] [.int (m.1 72 22), .ref 72] (tX12_flag (1 : Int32) m r7 q6) (csX12_42 rfl) dX12_takes_36 rfl rfl (by decide) (by decide) (Nat.le_of_ble_eq_true rfl) ?_
      show sm_W _ _ _ _ _ 39 [.ref 72, .int x1, .int (1 : Int32)] [.int r7, .int (m.1 72 22), .ref 72] (sm_hp m)
      refine w_blk bX12_takes_39 [.ref 72, .int x1, .int (1 : Int32)] [.int (1 : Int32)] (sm_hp (sm_w1 m 72 22 ((m.1 72 22) + r7))) [] rfl (sm_on) ?_
      obtain rfl := Option.some.inj hf
      exact w_reti dX12_takes_44 rfl sm_nb1
set_option maxRecDepth 10000 in
theorem tX12_readsHedge {l : Launch} {al : Bool} (m : sm_S) (r : Int32 × sm_S) (hf : fX12_readsHedge m = some r) : sm_Rt l mX12_readsHedge 5 0 0 al al [.ref 72] (sm_hp m) (some (.int r.1), sm_hp r.2) := by
  refine sm_Rt.ofW (L := [.ref 72, .retAddr 0]) (by decide) (Nat.le_of_ble_eq_true rfl) rfl ?_
  unfold fX12_readsHedge at hf
  refine w_blk bX12_readsHedge_0 [.ref 72, .int (m.1 72 25)] [.int (14 : Int32), .int (m.1 72 25)] (sm_hp m) [] rfl (sm_on) ?_
  refine w_icmp_ne (tgt := 13) dX12_readsHedge_8 rfl (fun hc => ?_) (fun hc => ?_)
  · replace hf := sm_iff hc hf
    refine w_blk bX12_readsHedge_13 [.ref 72, .int (m.1 72 25)] [.int (-1 : Int32), .ref 72, .int (m.1 72 25), .ref 76] (sm_hp m) [] rfl (sm_on) ?_
    replace hf := sm_bd hf
    obtain ⟨r2, q1, hf⟩ := hf
    refine w_callV [.int (-1 : Int32)] [.int (m.1 72 25), .ref 76] (tX12_cornerBut (-1 : Int32) m r2 q1) (cvX12_77 rfl) dX12_readsHedge_20 rfl rfl (by decide) (by decide) rfl (Nat.le_of_ble_eq_true rfl) ?_
    show sm_W _ _ _ _ _ 23 [.ref 72, .int (m.1 72 25)] [.int r2.1, .int (m.1 72 25), .ref 76] (sm_hp r2.2)
    replace hf := sm_ck hf
    obtain ⟨q3, hf⟩ := hf
    replace hf := sm_ck hf
    obtain ⟨q4, hf⟩ := hf
    refine w_blk bX12_readsHedge_23 [.ref 72, .int (m.1 72 25)] [.int ((sm_w1 r2.2 76 (m.1 72 25).toNatClampNeg r2.1).1 76 (m.1 72 25).toNatClampNeg)] (sm_hp (sm_w1 r2.2 76 (m.1 72 25).toNatClampNeg r2.1)) [((m.1 72 25), 14), ((m.1 72 25), 14)] rfl (sm_oc q3 (sm_oc q4 (sm_on))) ?_
    refine w_if_ge (tgt := 35) dX12_readsHedge_30 rfl (fun hc => ?_) (fun hc => ?_)
    · replace hf := sm_ift hc hf
      replace hf := sm_ck hf
      obtain ⟨q5, hf⟩ := hf
      refine w_blk bX12_readsHedge_35 [.ref 72, .int (m.1 72 25)] [.int ((sm_w1 r2.2 76 (m.1 72 25).toNatClampNeg r2.1).1 76 (m.1 72 25).toNatClampNeg), .ref 72, .int (m.1 72 25), .ref 77] (sm_hp (sm_w1 r2.2 76 (m.1 72 25).toNatClampNeg r2.1)) [((m.1 72 25), 14)] rfl (sm_oc q5 (sm_on)) ?_
      replace hf := sm_bd hf
      obtain ⟨r7, q6, hf⟩ := hf
      refine w_callV [.int ((sm_w1 r2.2 76 (m.1 72 25).toNatClampNeg r2.1).1 76 (m.1 72 25).toNatClampNeg)] [.int (m.1 72 25), .ref 77] (tX12_cornerBut ((sm_w1 r2.2 76 (m.1 72 25).toNatClampNeg r2.1).1 76 (m.1 72 25).toNatClampNeg) (sm_w1 r2.2 76 (m.1 72 25).toNatClampNeg r2.1) r7 q6) (cvX12_77 rfl) dX12_readsHedge_47 rfl rfl (by decide) (by decide) rfl (Nat.le_of_ble_eq_true rfl) ?_
      show sm_W _ _ _ _ _ 50 [.ref 72, .int (m.1 72 25)] [.int r7.1, .int (m.1 72 25), .ref 77] (sm_hp r7.2)
      replace hf := sm_ck hf
      obtain ⟨q8, hf⟩ := hf
      replace hf := sm_ck hf
      obtain ⟨q9, hf⟩ := hf
      refine w_blk bX12_readsHedge_50 [.ref 72, .int (m.1 72 25)] [.int ((sm_w1 r7.2 77 (m.1 72 25).toNatClampNeg r7.1).1 77 (m.1 72 25).toNatClampNeg)] (sm_hp (sm_w1 r7.2 77 (m.1 72 25).toNatClampNeg r7.1)) [((m.1 72 25), 14), ((m.1 72 25), 14)] rfl (sm_oc q8 (sm_oc q9 (sm_on))) ?_
      refine w_if_ge (tgt := 62) dX12_readsHedge_57 rfl (fun hc => ?_) (fun hc => ?_)
      · replace hf := sm_ift hc hf
        refine w_blk bX12_readsHedge_62 [.ref 72, .int (m.1 72 25)] [.int (20 : Int32), .int (1 : Int32), .ref 72, .int (m.1 72 25), .ref 78] (sm_hp (sm_w1 r7.2 77 (m.1 72 25).toNatClampNeg r7.1)) [] rfl (sm_on) ?_
        replace hf := sm_bd hf
        obtain ⟨r11, q10, hf⟩ := hf
        refine w_callV [.int (1 : Int32), .int (20 : Int32)] [.int (m.1 72 25), .ref 78] (tX12_number (1 : Int32) (20 : Int32) (sm_w1 r7.2 77 (m.1 72 25).toNatClampNeg r7.1) r11 q10) (cvX12_86 rfl) dX12_readsHedge_71 rfl rfl (by decide) (by decide) rfl (Nat.le_of_ble_eq_true rfl) ?_
        show sm_W _ _ _ _ _ 74 [.ref 72, .int (m.1 72 25)] [.int r11.1, .int (m.1 72 25), .ref 78] (sm_hp r11.2)
        replace hf := sm_ck hf
        obtain ⟨q12, hf⟩ := hf
        replace hf := sm_ck hf
        obtain ⟨q13, hf⟩ := hf
        refine w_blk bX12_readsHedge_74 [.ref 72, .int (m.1 72 25)] [.int ((sm_w1 r11.2 78 (m.1 72 25).toNatClampNeg r11.1).1 78 (m.1 72 25).toNatClampNeg)] (sm_hp (sm_w1 r11.2 78 (m.1 72 25).toNatClampNeg r11.1)) [((m.1 72 25), 14), ((m.1 72 25), 14)] rfl (sm_oc q12 (sm_oc q13 (sm_on))) ?_
        refine w_if_lt (tgt := 93) dX12_readsHedge_81 rfl (fun hc => ?_) (fun hc => ?_)
        · replace hf := sm_ift hc hf
          refine w_blk bX12_readsHedge_93 [.ref 72, .int (m.1 72 25)] [.int (0 : Int32)] (sm_hp (sm_w1 r11.2 78 (m.1 72 25).toNatClampNeg r11.1)) [] rfl (sm_on) ?_
          obtain rfl := Option.some.inj hf
          exact w_reti dX12_readsHedge_94 rfl sm_nb0
        · replace hf := sm_iff hc hf
          refine w_blk bX12_readsHedge_84 [.ref 72, .int (m.1 72 25)] [.int (58 : Int32), .ref 72] (sm_hp (sm_w1 r11.2 78 (m.1 72 25).toNatClampNeg r11.1)) [] rfl (sm_on) ?_
          replace hf := sm_bd hf
          obtain ⟨r15, q14, hf⟩ := hf
          refine w_callV [.int (58 : Int32)] [] (tX12_takes (58 : Int32) (sm_w1 r11.2 78 (m.1 72 25).toNatClampNeg r11.1) r15 q14) (cvX12_61 rfl) dX12_readsHedge_87 rfl rfl (by decide) (by decide) rfl (Nat.le_of_ble_eq_true rfl) ?_
          show sm_W _ _ _ _ _ 90 [.ref 72, .int (m.1 72 25)] [.int r15.1] (sm_hp r15.2)
          refine w_if_ne (tgt := 95) dX12_readsHedge_90 rfl (fun hc => ?_) (fun hc => ?_)
          · replace hf := sm_iff hc hf
            refine w_blk bX12_readsHedge_95 [.ref 72, .int (m.1 72 25)] [.int (5 : Int32), .ref 72, .int (m.1 72 25), .ref 79] (sm_hp r15.2) [] rfl (sm_on) ?_
            replace hf := sm_bd hf
            obtain ⟨r17, q16, hf⟩ := hf
            refine w_callV [.int (5 : Int32)] [.int (m.1 72 25), .ref 79] (tX12_digit (5 : Int32) r15.2 r17 q16) (cvX12_54 rfl) dX12_readsHedge_102 rfl rfl (by decide) (by decide) rfl (Nat.le_of_ble_eq_true rfl) ?_
            show sm_W _ _ _ _ _ 105 [.ref 72, .int (m.1 72 25)] [.int r17.1, .int (m.1 72 25), .ref 79] (sm_hp r17.2)
            replace hf := sm_ck hf
            obtain ⟨q18, hf⟩ := hf
            replace hf := sm_ck hf
            obtain ⟨q19, hf⟩ := hf
            refine w_blk bX12_readsHedge_105 [.ref 72, .int (m.1 72 25)] [.int ((sm_w1 r17.2 79 (m.1 72 25).toNatClampNeg r17.1).1 79 (m.1 72 25).toNatClampNeg)] (sm_hp (sm_w1 r17.2 79 (m.1 72 25).toNatClampNeg r17.1)) [((m.1 72 25), 14), ((m.1 72 25), 14)] rfl (sm_oc q18 (sm_oc q19 (sm_on))) ?_
            refine w_if_ge (tgt := 117) dX12_readsHedge_112 rfl (fun hc => ?_) (fun hc => ?_)
            · replace hf := sm_ift hc hf
              refine w_blk bX12_readsHedge_117 [.ref 72, .int (m.1 72 25)] [.int (5 : Int32), .ref 72, .int (m.1 72 25), .ref 80] (sm_hp (sm_w1 r17.2 79 (m.1 72 25).toNatClampNeg r17.1)) [] rfl (sm_on) ?_
              replace hf := sm_bd hf
              obtain ⟨r21, q20, hf⟩ := hf
              refine w_callV [.int (5 : Int32)] [.int (m.1 72 25), .ref 80] (tX12_digit (5 : Int32) (sm_w1 r17.2 79 (m.1 72 25).toNatClampNeg r17.1) r21 q20) (cvX12_54 rfl) dX12_readsHedge_124 rfl rfl (by decide) (by decide) rfl (Nat.le_of_ble_eq_true rfl) ?_
              show sm_W _ _ _ _ _ 127 [.ref 72, .int (m.1 72 25)] [.int r21.1, .int (m.1 72 25), .ref 80] (sm_hp r21.2)
              replace hf := sm_ck hf
              obtain ⟨q22, hf⟩ := hf
              replace hf := sm_ck hf
              obtain ⟨q23, hf⟩ := hf
              refine w_blk bX12_readsHedge_127 [.ref 72, .int (m.1 72 25)] [.int ((sm_w1 r21.2 80 (m.1 72 25).toNatClampNeg r21.1).1 80 (m.1 72 25).toNatClampNeg)] (sm_hp (sm_w1 r21.2 80 (m.1 72 25).toNatClampNeg r21.1)) [((m.1 72 25), 14), ((m.1 72 25), 14)] rfl (sm_oc q22 (sm_oc q23 (sm_on))) ?_
              refine w_if_ge (tgt := 139) dX12_readsHedge_134 rfl (fun hc => ?_) (fun hc => ?_)
              · replace hf := sm_ift hc hf
                refine w_blk bX12_readsHedge_139 [.ref 72, .int (m.1 72 25)] [.int (119 : Int32), .ref 72, .int (m.1 72 25), .ref 81] (sm_hp (sm_w1 r21.2 80 (m.1 72 25).toNatClampNeg r21.1)) [] rfl (sm_on) ?_
                replace hf := sm_bd hf
                obtain ⟨r25, q24, hf⟩ := hf
                refine w_callV [.int (119 : Int32)] [.int (m.1 72 25), .ref 81] (tX12_takes (119 : Int32) (sm_w1 r21.2 80 (m.1 72 25).toNatClampNeg r21.1) r25 q24) (cvX12_61 rfl) dX12_readsHedge_147 rfl rfl (by decide) (by decide) rfl (Nat.le_of_ble_eq_true rfl) ?_
                show sm_W _ _ _ _ _ 150 [.ref 72, .int (m.1 72 25)] [.int r25.1, .int (m.1 72 25), .ref 81] (sm_hp r25.2)
                refine w_if_eq (tgt := 162) dX12_readsHedge_150 rfl (fun hc => ?_) (fun hc => ?_)
                · replace hf := sm_ift hc hf
                  refine w_blk bX12_readsHedge_162 [.ref 72, .int (m.1 72 25)] [.int (1 : Int32), .int (m.1 72 25), .ref 81] (sm_hp r25.2) [] rfl (sm_on) ?_
                  replace hf := sm_ck hf
                  obtain ⟨q26, hf⟩ := hf
                  replace hf := sm_ck hf
                  obtain ⟨q27, hf⟩ := hf
                  refine w_blk bX12_readsHedge_163 [.ref 72, .int (m.1 72 25)] [.int ((sm_w1 r25.2 81 (m.1 72 25).toNatClampNeg (1 : Int32)).1 81 (m.1 72 25).toNatClampNeg)] (sm_hp (sm_w1 r25.2 81 (m.1 72 25).toNatClampNeg (1 : Int32))) [((m.1 72 25), 14), ((m.1 72 25), 14)] rfl (sm_oc q26 (sm_oc q27 (sm_on))) ?_
                  refine w_if_ge (tgt := 175) dX12_readsHedge_170 rfl (fun hc => ?_) (fun hc => ?_)
                  · replace hf := sm_ift hc hf
                    refine w_blk bX12_readsHedge_175 [.ref 72, .int (m.1 72 25)] [.int (126 : Int32), .ref 72, .int (m.1 72 25), .ref 82] (sm_hp (sm_w1 r25.2 81 (m.1 72 25).toNatClampNeg (1 : Int32))) [] rfl (sm_on) ?_
                    replace hf := sm_bd hf
                    obtain ⟨r29, q28, hf⟩ := hf
                    refine w_callV [.int (126 : Int32)] [.int (m.1 72 25), .ref 82] (tX12_takes (126 : Int32) (sm_w1 r25.2 81 (m.1 72 25).toNatClampNeg (1 : Int32)) r29 q28) (cvX12_61 rfl) dX12_readsHedge_183 rfl rfl (by decide) (by decide) rfl (Nat.le_of_ble_eq_true rfl) ?_
                    show sm_W _ _ _ _ _ 186 [.ref 72, .int (m.1 72 25)] [.int r29.1, .int (m.1 72 25), .ref 82] (sm_hp r29.2)
                    refine w_if_eq (tgt := 198) dX12_readsHedge_186 rfl (fun hc => ?_) (fun hc => ?_)
                    · replace hf := sm_ift hc hf
                      refine w_blk bX12_readsHedge_198 [.ref 72, .int (m.1 72 25)] [.int (0 : Int32), .int (m.1 72 25), .ref 82] (sm_hp r29.2) [] rfl (sm_on) ?_
                      replace hf := sm_ck hf
                      obtain ⟨q30, hf⟩ := hf
                      replace hf := sm_ck hf
                      obtain ⟨q31, hf⟩ := hf
                      refine w_blk bX12_readsHedge_199 [.ref 72, .int (m.1 72 25)] [.int ((sm_w1 r29.2 82 (m.1 72 25).toNatClampNeg (0 : Int32)).1 82 (m.1 72 25).toNatClampNeg)] (sm_hp (sm_w1 r29.2 82 (m.1 72 25).toNatClampNeg (0 : Int32))) [((m.1 72 25), 14), ((m.1 72 25), 14)] rfl (sm_oc q30 (sm_oc q31 (sm_on))) ?_
                      refine w_if_ge (tgt := 211) dX12_readsHedge_206 rfl (fun hc => ?_) (fun hc => ?_)
                      · replace hf := sm_ift hc hf
                        refine w_blk bX12_readsHedge_211 [.ref 72, .int (m.1 72 25)] [.int (103 : Int32), .ref 72, .int (r29.2.1 72 26), .ref 72] (sm_hp (sm_w1 r29.2 82 (m.1 72 25).toNatClampNeg (0 : Int32))) [] rfl (sm_on) ?_
                        replace hf := sm_bd hf
                        obtain ⟨r33, q32, hf⟩ := hf
                        refine w_callV [.int (103 : Int32)] [.int (r29.2.1 72 26), .ref 72] (tX12_takes (103 : Int32) (sm_w1 r29.2 82 (m.1 72 25).toNatClampNeg (0 : Int32)) r33 q32) (cvX12_61 rfl) dX12_readsHedge_219 rfl rfl (by decide) (by decide) rfl (Nat.le_of_ble_eq_true rfl) ?_
                        show sm_W _ _ _ _ _ 222 [.ref 72, .int (m.1 72 25)] [.int r33.1, .int (r29.2.1 72 26), .ref 72] (sm_hp r33.2)
                        refine w_if_eq (tgt := 231) dX12_readsHedge_222 rfl (fun hc => ?_) (fun hc => ?_)
                        · replace hf := sm_ift hc hf
                          refine w_blk bX12_readsHedge_231 [.ref 72, .int (m.1 72 25)] [.int (0 : Int32), .int (r29.2.1 72 26), .ref 72] (sm_hp r33.2) [] rfl (sm_on) ?_
                          replace hf := sm_ck hf
                          obtain ⟨q34, hf⟩ := hf
                          refine w_blk bX12_readsHedge_232 [.ref 72, .int (m.1 72 25)] [.int (1 : Int32)] (sm_hp (sm_w1 (sm_w1 (sm_w1 r33.2 72 26 ((r29.2.1 72 26) ||| (0 : Int32))) 83 (m.1 72 25).toNatClampNeg (-1 : Int32)) 72 25 ((r33.2.1 72 25) + (1 : Int32)))) [((m.1 72 25), 14)] rfl (sm_oc q34 (sm_on)) ?_
                          obtain rfl := Option.some.inj hf
                          exact w_reti dX12_readsHedge_254 rfl sm_nb1
                        · replace hf := sm_iff hc hf
                          refine w_blk bX12_readsHedge_225 [.ref 72, .int (m.1 72 25)] [.int ((1 : Int32) <<< ((m.1 72 25) &&& 31)), .int (r29.2.1 72 26), .ref 72] (sm_hp r33.2) [] rfl (sm_on) ?_
                          refine w_goto (tgt := 232) dX12_readsHedge_228 rfl ?_
                          replace hf := sm_ck hf
                          obtain ⟨q35, hf⟩ := hf
                          refine w_blk bX12_readsHedge_232 [.ref 72, .int (m.1 72 25)] [.int (1 : Int32)] (sm_hp (sm_w1 (sm_w1 (sm_w1 r33.2 72 26 ((r29.2.1 72 26) ||| ((1 : Int32) <<< ((m.1 72 25) &&& 31)))) 83 (m.1 72 25).toNatClampNeg (-1 : Int32)) 72 25 ((r33.2.1 72 25) + (1 : Int32)))) [((m.1 72 25), 14)] rfl (sm_oc q35 (sm_on)) ?_
                          obtain rfl := Option.some.inj hf
                          exact w_reti dX12_readsHedge_254 rfl sm_nb1
                      · replace hf := sm_iff hc hf
                        refine w_blk bX12_readsHedge_209 [.ref 72, .int (m.1 72 25)] [.int (0 : Int32)] (sm_hp (sm_w1 r29.2 82 (m.1 72 25).toNatClampNeg (0 : Int32))) [] rfl (sm_on) ?_
                        obtain rfl := Option.some.inj hf
                        exact w_reti dX12_readsHedge_210 rfl sm_nb0
                    · replace hf := sm_iff hc hf
                      refine w_blk bX12_readsHedge_189 [.ref 72, .int (m.1 72 25)] [.int (9 : Int32), .ref 72, .int (m.1 72 25), .ref 82] (sm_hp r29.2) [] rfl (sm_on) ?_
                      replace hf := sm_bd hf
                      obtain ⟨r37, q36, hf⟩ := hf
                      refine w_callV [.int (9 : Int32)] [.int (m.1 72 25), .ref 82] (tX12_digit (9 : Int32) r29.2 r37 q36) (cvX12_54 rfl) dX12_readsHedge_192 rfl rfl (by decide) (by decide) rfl (Nat.le_of_ble_eq_true rfl) ?_
                      show sm_W _ _ _ _ _ 195 [.ref 72, .int (m.1 72 25)] [.int r37.1, .int (m.1 72 25), .ref 82] (sm_hp r37.2)
                      refine w_goto (tgt := 199) dX12_readsHedge_195 rfl ?_
                      replace hf := sm_ck hf
                      obtain ⟨q38, hf⟩ := hf
                      replace hf := sm_ck hf
                      obtain ⟨q39, hf⟩ := hf
                      refine w_blk bX12_readsHedge_199 [.ref 72, .int (m.1 72 25)] [.int ((sm_w1 r37.2 82 (m.1 72 25).toNatClampNeg r37.1).1 82 (m.1 72 25).toNatClampNeg)] (sm_hp (sm_w1 r37.2 82 (m.1 72 25).toNatClampNeg r37.1)) [((m.1 72 25), 14), ((m.1 72 25), 14)] rfl (sm_oc q38 (sm_oc q39 (sm_on))) ?_
                      refine w_if_ge (tgt := 211) dX12_readsHedge_206 rfl (fun hc => ?_) (fun hc => ?_)
                      · replace hf := sm_ift hc hf
                        refine w_blk bX12_readsHedge_211 [.ref 72, .int (m.1 72 25)] [.int (103 : Int32), .ref 72, .int (r37.2.1 72 26), .ref 72] (sm_hp (sm_w1 r37.2 82 (m.1 72 25).toNatClampNeg r37.1)) [] rfl (sm_on) ?_
                        replace hf := sm_bd hf
                        obtain ⟨r41, q40, hf⟩ := hf
                        refine w_callV [.int (103 : Int32)] [.int (r37.2.1 72 26), .ref 72] (tX12_takes (103 : Int32) (sm_w1 r37.2 82 (m.1 72 25).toNatClampNeg r37.1) r41 q40) (cvX12_61 rfl) dX12_readsHedge_219 rfl rfl (by decide) (by decide) rfl (Nat.le_of_ble_eq_true rfl) ?_
                        show sm_W _ _ _ _ _ 222 [.ref 72, .int (m.1 72 25)] [.int r41.1, .int (r37.2.1 72 26), .ref 72] (sm_hp r41.2)
                        refine w_if_eq (tgt := 231) dX12_readsHedge_222 rfl (fun hc => ?_) (fun hc => ?_)
                        · replace hf := sm_ift hc hf
                          refine w_blk bX12_readsHedge_231 [.ref 72, .int (m.1 72 25)] [.int (0 : Int32), .int (r37.2.1 72 26), .ref 72] (sm_hp r41.2) [] rfl (sm_on) ?_
                          replace hf := sm_ck hf
                          obtain ⟨q42, hf⟩ := hf
                          refine w_blk bX12_readsHedge_232 [.ref 72, .int (m.1 72 25)] [.int (1 : Int32)] (sm_hp (sm_w1 (sm_w1 (sm_w1 r41.2 72 26 ((r37.2.1 72 26) ||| (0 : Int32))) 83 (m.1 72 25).toNatClampNeg (-1 : Int32)) 72 25 ((r41.2.1 72 25) + (1 : Int32)))) [((m.1 72 25), 14)] rfl (sm_oc q42 (sm_on)) ?_
                          obtain rfl := Option.some.inj hf
                          exact w_reti dX12_readsHedge_254 rfl sm_nb1
                        · replace hf := sm_iff hc hf
                          refine w_blk bX12_readsHedge_225 [.ref 72, .int (m.1 72 25)] [.int ((1 : Int32) <<< ((m.1 72 25) &&& 31)), .int (r37.2.1 72 26), .ref 72] (sm_hp r41.2) [] rfl (sm_on) ?_
                          refine w_goto (tgt := 232) dX12_readsHedge_228 rfl ?_
                          replace hf := sm_ck hf
                          obtain ⟨q43, hf⟩ := hf
                          refine w_blk bX12_readsHedge_232 [.ref 72, .int (m.1 72 25)] [.int (1 : Int32)] (sm_hp (sm_w1 (sm_w1 (sm_w1 r41.2 72 26 ((r37.2.1 72 26) ||| ((1 : Int32) <<< ((m.1 72 25) &&& 31)))) 83 (m.1 72 25).toNatClampNeg (-1 : Int32)) 72 25 ((r41.2.1 72 25) + (1 : Int32)))) [((m.1 72 25), 14)] rfl (sm_oc q43 (sm_on)) ?_
                          obtain rfl := Option.some.inj hf
                          exact w_reti dX12_readsHedge_254 rfl sm_nb1
                      · replace hf := sm_iff hc hf
                        refine w_blk bX12_readsHedge_209 [.ref 72, .int (m.1 72 25)] [.int (0 : Int32)] (sm_hp (sm_w1 r37.2 82 (m.1 72 25).toNatClampNeg r37.1)) [] rfl (sm_on) ?_
                        obtain rfl := Option.some.inj hf
                        exact w_reti dX12_readsHedge_210 rfl sm_nb0
                  · replace hf := sm_iff hc hf
                    refine w_blk bX12_readsHedge_173 [.ref 72, .int (m.1 72 25)] [.int (0 : Int32)] (sm_hp (sm_w1 r25.2 81 (m.1 72 25).toNatClampNeg (1 : Int32))) [] rfl (sm_on) ?_
                    obtain rfl := Option.some.inj hf
                    exact w_reti dX12_readsHedge_174 rfl sm_nb0
                · replace hf := sm_iff hc hf
                  refine w_blk bX12_readsHedge_153 [.ref 72, .int (m.1 72 25)] [.int (9 : Int32), .ref 72, .int (m.1 72 25), .ref 81] (sm_hp r25.2) [] rfl (sm_on) ?_
                  replace hf := sm_bd hf
                  obtain ⟨r45, q44, hf⟩ := hf
                  refine w_callV [.int (9 : Int32)] [.int (m.1 72 25), .ref 81] (tX12_digit (9 : Int32) r25.2 r45 q44) (cvX12_54 rfl) dX12_readsHedge_156 rfl rfl (by decide) (by decide) rfl (Nat.le_of_ble_eq_true rfl) ?_
                  show sm_W _ _ _ _ _ 159 [.ref 72, .int (m.1 72 25)] [.int r45.1, .int (m.1 72 25), .ref 81] (sm_hp r45.2)
                  refine w_goto (tgt := 163) dX12_readsHedge_159 rfl ?_
                  replace hf := sm_ck hf
                  obtain ⟨q46, hf⟩ := hf
                  replace hf := sm_ck hf
                  obtain ⟨q47, hf⟩ := hf
                  refine w_blk bX12_readsHedge_163 [.ref 72, .int (m.1 72 25)] [.int ((sm_w1 r45.2 81 (m.1 72 25).toNatClampNeg r45.1).1 81 (m.1 72 25).toNatClampNeg)] (sm_hp (sm_w1 r45.2 81 (m.1 72 25).toNatClampNeg r45.1)) [((m.1 72 25), 14), ((m.1 72 25), 14)] rfl (sm_oc q46 (sm_oc q47 (sm_on))) ?_
                  refine w_if_ge (tgt := 175) dX12_readsHedge_170 rfl (fun hc => ?_) (fun hc => ?_)
                  · replace hf := sm_ift hc hf
                    refine w_blk bX12_readsHedge_175 [.ref 72, .int (m.1 72 25)] [.int (126 : Int32), .ref 72, .int (m.1 72 25), .ref 82] (sm_hp (sm_w1 r45.2 81 (m.1 72 25).toNatClampNeg r45.1)) [] rfl (sm_on) ?_
                    replace hf := sm_bd hf
                    obtain ⟨r49, q48, hf⟩ := hf
                    refine w_callV [.int (126 : Int32)] [.int (m.1 72 25), .ref 82] (tX12_takes (126 : Int32) (sm_w1 r45.2 81 (m.1 72 25).toNatClampNeg r45.1) r49 q48) (cvX12_61 rfl) dX12_readsHedge_183 rfl rfl (by decide) (by decide) rfl (Nat.le_of_ble_eq_true rfl) ?_
                    show sm_W _ _ _ _ _ 186 [.ref 72, .int (m.1 72 25)] [.int r49.1, .int (m.1 72 25), .ref 82] (sm_hp r49.2)
                    refine w_if_eq (tgt := 198) dX12_readsHedge_186 rfl (fun hc => ?_) (fun hc => ?_)
                    · replace hf := sm_ift hc hf
                      refine w_blk bX12_readsHedge_198 [.ref 72, .int (m.1 72 25)] [.int (0 : Int32), .int (m.1 72 25), .ref 82] (sm_hp r49.2) [] rfl (sm_on) ?_
                      replace hf := sm_ck hf
                      obtain ⟨q50, hf⟩ := hf
                      replace hf := sm_ck hf
                      obtain ⟨q51, hf⟩ := hf
                      refine w_blk bX12_readsHedge_199 [.ref 72, .int (m.1 72 25)] [.int ((sm_w1 r49.2 82 (m.1 72 25).toNatClampNeg (0 : Int32)).1 82 (m.1 72 25).toNatClampNeg)] (sm_hp (sm_w1 r49.2 82 (m.1 72 25).toNatClampNeg (0 : Int32))) [((m.1 72 25), 14), ((m.1 72 25), 14)] rfl (sm_oc q50 (sm_oc q51 (sm_on))) ?_
                      refine w_if_ge (tgt := 211) dX12_readsHedge_206 rfl (fun hc => ?_) (fun hc => ?_)
                      · replace hf := sm_ift hc hf
                        refine w_blk bX12_readsHedge_211 [.ref 72, .int (m.1 72 25)] [.int (103 : Int32), .ref 72, .int (r49.2.1 72 26), .ref 72] (sm_hp (sm_w1 r49.2 82 (m.1 72 25).toNatClampNeg (0 : Int32))) [] rfl (sm_on) ?_
                        replace hf := sm_bd hf
                        obtain ⟨r53, q52, hf⟩ := hf
                        refine w_callV [.int (103 : Int32)] [.int (r49.2.1 72 26), .ref 72] (tX12_takes (103 : Int32) (sm_w1 r49.2 82 (m.1 72 25).toNatClampNeg (0 : Int32)) r53 q52) (cvX12_61 rfl) dX12_readsHedge_219 rfl rfl (by decide) (by decide) rfl (Nat.le_of_ble_eq_true rfl) ?_
                        show sm_W _ _ _ _ _ 222 [.ref 72, .int (m.1 72 25)] [.int r53.1, .int (r49.2.1 72 26), .ref 72] (sm_hp r53.2)
                        refine w_if_eq (tgt := 231) dX12_readsHedge_222 rfl (fun hc => ?_) (fun hc => ?_)
                        · replace hf := sm_ift hc hf
                          refine w_blk bX12_readsHedge_231 [.ref 72, .int (m.1 72 25)] [.int (0 : Int32), .int (r49.2.1 72 26), .ref 72] (sm_hp r53.2) [] rfl (sm_on) ?_
                          replace hf := sm_ck hf
                          obtain ⟨q54, hf⟩ := hf
                          refine w_blk bX12_readsHedge_232 [.ref 72, .int (m.1 72 25)] [.int (1 : Int32)] (sm_hp (sm_w1 (sm_w1 (sm_w1 r53.2 72 26 ((r49.2.1 72 26) ||| (0 : Int32))) 83 (m.1 72 25).toNatClampNeg (-1 : Int32)) 72 25 ((r53.2.1 72 25) + (1 : Int32)))) [((m.1 72 25), 14)] rfl (sm_oc q54 (sm_on)) ?_
                          obtain rfl := Option.some.inj hf
                          exact w_reti dX12_readsHedge_254 rfl sm_nb1
                        · replace hf := sm_iff hc hf
                          refine w_blk bX12_readsHedge_225 [.ref 72, .int (m.1 72 25)] [.int ((1 : Int32) <<< ((m.1 72 25) &&& 31)), .int (r49.2.1 72 26), .ref 72] (sm_hp r53.2) [] rfl (sm_on) ?_
                          refine w_goto (tgt := 232) dX12_readsHedge_228 rfl ?_
                          replace hf := sm_ck hf
                          obtain ⟨q55, hf⟩ := hf
                          refine w_blk bX12_readsHedge_232 [.ref 72, .int (m.1 72 25)] [.int (1 : Int32)] (sm_hp (sm_w1 (sm_w1 (sm_w1 r53.2 72 26 ((r49.2.1 72 26) ||| ((1 : Int32) <<< ((m.1 72 25) &&& 31)))) 83 (m.1 72 25).toNatClampNeg (-1 : Int32)) 72 25 ((r53.2.1 72 25) + (1 : Int32)))) [((m.1 72 25), 14)] rfl (sm_oc q55 (sm_on)) ?_
                          obtain rfl := Option.some.inj hf
                          exact w_reti dX12_readsHedge_254 rfl sm_nb1
                      · replace hf := sm_iff hc hf
                        refine w_blk bX12_readsHedge_209 [.ref 72, .int (m.1 72 25)] [.int (0 : Int32)] (sm_hp (sm_w1 r49.2 82 (m.1 72 25).toNatClampNeg (0 : Int32))) [] rfl (sm_on) ?_
                        obtain rfl := Option.some.inj hf
                        exact w_reti dX12_readsHedge_210 rfl sm_nb0
                    · replace hf := sm_iff hc hf
                      refine w_blk bX12_readsHedge_189 [.ref 72, .int (m.1 72 25)] [.int (9 : Int32), .ref 72, .int (m.1 72 25), .ref 82] (sm_hp r49.2) [] rfl (sm_on) ?_
                      replace hf := sm_bd hf
                      obtain ⟨r57, q56, hf⟩ := hf
                      refine w_callV [.int (9 : Int32)] [.int (m.1 72 25), .ref 82] (tX12_digit (9 : Int32) r49.2 r57 q56) (cvX12_54 rfl) dX12_readsHedge_192 rfl rfl (by decide) (by decide) rfl (Nat.le_of_ble_eq_true rfl) ?_
                      show sm_W _ _ _ _ _ 195 [.ref 72, .int (m.1 72 25)] [.int r57.1, .int (m.1 72 25), .ref 82] (sm_hp r57.2)
                      refine w_goto (tgt := 199) dX12_readsHedge_195 rfl ?_
                      replace hf := sm_ck hf
                      obtain ⟨q58, hf⟩ := hf
                      replace hf := sm_ck hf
                      obtain ⟨q59, hf⟩ := hf
                      refine w_blk bX12_readsHedge_199 [.ref 72, .int (m.1 72 25)] [.int ((sm_w1 r57.2 82 (m.1 72 25).toNatClampNeg r57.1).1 82 (m.1 72 25).toNatClampNeg)] (sm_hp (sm_w1 r57.2 82 (m.1 72 25).toNatClampNeg r57.1)) [((m.1 72 25), 14), ((m.1 72 25), 14)] rfl (sm_oc q58 (sm_oc q59 (sm_on))) ?_
                      refine w_if_ge (tgt := 211) dX12_readsHedge_206 rfl (fun hc => ?_) (fun hc => ?_)
                      · replace hf := sm_ift hc hf
                        refine w_blk bX12_readsHedge_211 [.ref 72, .int (m.1 72 25)] [.int (103 : Int32), .ref 72, .int (r57.2.1 72 26), .ref 72] (sm_hp (sm_w1 r57.2 82 (m.1 72 25).toNatClampNeg r57.1)) [] rfl (sm_on) ?_
                        replace hf := sm_bd hf
                        obtain ⟨r61, q60, hf⟩ := hf
                        refine w_callV [.int (103 : Int32)] [.int (r57.2.1 72 26), .ref 72] (tX12_takes (103 : Int32) (sm_w1 r57.2 82 (m.1 72 25).toNatClampNeg r57.1) r61 q60) (cvX12_61 rfl) dX12_readsHedge_219 rfl rfl (by decide) (by decide) rfl (Nat.le_of_ble_eq_true rfl) ?_
                        show sm_W _ _ _ _ _ 222 [.ref 72, .int (m.1 72 25)] [.int r61.1, .int (r57.2.1 72 26), .ref 72] (sm_hp r61.2)
                        refine w_if_eq (tgt := 231) dX12_readsHedge_222 rfl (fun hc => ?_) (fun hc => ?_)
                        · replace hf := sm_ift hc hf
                          refine w_blk bX12_readsHedge_231 [.ref 72, .int (m.1 72 25)] [.int (0 : Int32), .int (r57.2.1 72 26), .ref 72] (sm_hp r61.2) [] rfl (sm_on) ?_
                          replace hf := sm_ck hf
                          obtain ⟨q62, hf⟩ := hf
                          refine w_blk bX12_readsHedge_232 [.ref 72, .int (m.1 72 25)] [.int (1 : Int32)] (sm_hp (sm_w1 (sm_w1 (sm_w1 r61.2 72 26 ((r57.2.1 72 26) ||| (0 : Int32))) 83 (m.1 72 25).toNatClampNeg (-1 : Int32)) 72 25 ((r61.2.1 72 25) + (1 : Int32)))) [((m.1 72 25), 14)] rfl (sm_oc q62 (sm_on)) ?_
                          obtain rfl := Option.some.inj hf
                          exact w_reti dX12_readsHedge_254 rfl sm_nb1
                        · replace hf := sm_iff hc hf
                          refine w_blk bX12_readsHedge_225 [.ref 72, .int (m.1 72 25)] [.int ((1 : Int32) <<< ((m.1 72 25) &&& 31)), .int (r57.2.1 72 26), .ref 72] (sm_hp r61.2) [] rfl (sm_on) ?_
                          refine w_goto (tgt := 232) dX12_readsHedge_228 rfl ?_
                          replace hf := sm_ck hf
                          obtain ⟨q63, hf⟩ := hf
                          refine w_blk bX12_readsHedge_232 [.ref 72, .int (m.1 72 25)] [.int (1 : Int32)] (sm_hp (sm_w1 (sm_w1 (sm_w1 r61.2 72 26 ((r57.2.1 72 26) ||| ((1 : Int32) <<< ((m.1 72 25) &&& 31)))) 83 (m.1 72 25).toNatClampNeg (-1 : Int32)) 72 25 ((r61.2.1 72 25) + (1 : Int32)))) [((m.1 72 25), 14)] rfl (sm_oc q63 (sm_on)) ?_
                          obtain rfl := Option.some.inj hf
                          exact w_reti dX12_readsHedge_254 rfl sm_nb1
                      · replace hf := sm_iff hc hf
                        refine w_blk bX12_readsHedge_209 [.ref 72, .int (m.1 72 25)] [.int (0 : Int32)] (sm_hp (sm_w1 r57.2 82 (m.1 72 25).toNatClampNeg r57.1)) [] rfl (sm_on) ?_
                        obtain rfl := Option.some.inj hf
                        exact w_reti dX12_readsHedge_210 rfl sm_nb0
                  · replace hf := sm_iff hc hf
                    refine w_blk bX12_readsHedge_173 [.ref 72, .int (m.1 72 25)] [.int (0 : Int32)] (sm_hp (sm_w1 r45.2 81 (m.1 72 25).toNatClampNeg r45.1)) [] rfl (sm_on) ?_
                    obtain rfl := Option.some.inj hf
                    exact w_reti dX12_readsHedge_174 rfl sm_nb0
              · replace hf := sm_iff hc hf
                refine w_blk bX12_readsHedge_137 [.ref 72, .int (m.1 72 25)] [.int (0 : Int32)] (sm_hp (sm_w1 r21.2 80 (m.1 72 25).toNatClampNeg r21.1)) [] rfl (sm_on) ?_
                obtain rfl := Option.some.inj hf
                exact w_reti dX12_readsHedge_138 rfl sm_nb0
            · replace hf := sm_iff hc hf
              refine w_blk bX12_readsHedge_115 [.ref 72, .int (m.1 72 25)] [.int (0 : Int32)] (sm_hp (sm_w1 r17.2 79 (m.1 72 25).toNatClampNeg r17.1)) [] rfl (sm_on) ?_
              obtain rfl := Option.some.inj hf
              exact w_reti dX12_readsHedge_116 rfl sm_nb0
          · replace hf := sm_ift hc hf
            refine w_blk bX12_readsHedge_93 [.ref 72, .int (m.1 72 25)] [.int (0 : Int32)] (sm_hp r15.2) [] rfl (sm_on) ?_
            obtain rfl := Option.some.inj hf
            exact w_reti dX12_readsHedge_94 rfl sm_nb0
      · replace hf := sm_iff hc hf
        refine w_blk bX12_readsHedge_60 [.ref 72, .int (m.1 72 25)] [.int (0 : Int32)] (sm_hp (sm_w1 r7.2 77 (m.1 72 25).toNatClampNeg r7.1)) [] rfl (sm_on) ?_
        obtain rfl := Option.some.inj hf
        exact w_reti dX12_readsHedge_61 rfl sm_nb0
    · replace hf := sm_iff hc hf
      refine w_blk bX12_readsHedge_33 [.ref 72, .int (m.1 72 25)] [.int (0 : Int32)] (sm_hp (sm_w1 r2.2 76 (m.1 72 25).toNatClampNeg r2.1)) [] rfl (sm_on) ?_
      obtain rfl := Option.some.inj hf
      exact w_reti dX12_readsHedge_34 rfl sm_nb0
  · replace hf := sm_ift hc hf
    refine w_blk bX12_readsHedge_11 [.ref 72, .int (m.1 72 25)] [.int (0 : Int32)] (sm_hp m) [] rfl (sm_on) ?_
    obtain rfl := Option.some.inj hf
    exact w_reti dX12_readsHedge_12 rfl sm_nb0
set_option maxRecDepth 10000 in
theorem tX12_readsCorner {l : Launch} {al : Bool} (m : sm_S) (r : Int32 × sm_S) (hf : fX12_readsCorner m = some r) : sm_Rt l mX12_readsCorner 4 0 0 al al [.ref 72] (sm_hp m) (some (.int r.1), sm_hp r.2) := by
  refine sm_Rt.ofW (L := [.ref 72, .retAddr 0, .retAddr 0]) (by decide) (Nat.le_of_ble_eq_true rfl) rfl ?_
  unfold fX12_readsCorner at hf
  refine w_blk bX12_readsCorner_0 [.ref 72, .retAddr 0, .retAddr 0] [.int (10 : Int32), .int (m.1 72 24)] (sm_hp m) [] rfl (sm_on) ?_
  refine w_icmp_eq (tgt := 18) dX12_readsCorner_6 rfl (fun hc => ?_) (fun hc => ?_)
  · replace hf := sm_ift hc hf
    refine w_blk bX12_readsCorner_18 [.ref 72, .retAddr 0, .retAddr 0] [.int (0 : Int32)] (sm_hp m) [] rfl (sm_on) ?_
    obtain rfl := Option.some.inj hf
    exact w_reti dX12_readsCorner_19 rfl sm_nb0
  · replace hf := sm_iff hc hf
    refine w_blk bX12_readsCorner_9 [.ref 72, .retAddr 0, .retAddr 0] [.int (64 : Int32), .ref 72] (sm_hp m) [] rfl (sm_on) ?_
    replace hf := sm_bd hf
    obtain ⟨r2, q1, hf⟩ := hf
    refine w_callV [.int (64 : Int32)] [] (tX12_takes (64 : Int32) m r2 q1) (cvX12_61 rfl) dX12_readsCorner_12 rfl rfl (by decide) (by decide) rfl (Nat.le_of_ble_eq_true rfl) ?_
    show sm_W _ _ _ _ _ 15 [.ref 72, .retAddr 0, .retAddr 0] [.int r2.1] (sm_hp r2.2)
    refine w_if_ne (tgt := 20) dX12_readsCorner_15 rfl (fun hc => ?_) (fun hc => ?_)
    · replace hf := sm_iff hc hf
      refine w_blk bX12_readsCorner_20 [.ref 72, .retAddr 0, .retAddr 0] [.int (9 : Int32), .ref 72] (sm_hp r2.2) [] rfl (sm_on) ?_
      replace hf := sm_bd hf
      obtain ⟨r4, q3, hf⟩ := hf
      refine w_callV [.int (9 : Int32)] [] (tX12_digit (9 : Int32) r2.2 r4 q3) (cvX12_54 rfl) dX12_readsCorner_23 rfl rfl (by decide) (by decide) rfl (Nat.le_of_ble_eq_true rfl) ?_
      show sm_W _ _ _ _ _ 26 [.ref 72, .retAddr 0, .retAddr 0] [.int r4.1] (sm_hp r4.2)
      refine w_blk bX12_readsCorner_26 [.ref 72, .int r4.1, .retAddr 0] [.int r4.1] (sm_hp r4.2) [] rfl (sm_on) ?_
      refine w_if_ge (tgt := 35) dX12_readsCorner_28 rfl (fun hc => ?_) (fun hc => ?_)
      · replace hf := sm_ift hc hf
        refine w_blk bX12_readsCorner_35 [.ref 72, .int r4.1, .retAddr 0] [.int (9 : Int32), .ref 72] (sm_hp r4.2) [] rfl (sm_on) ?_
        replace hf := sm_bd hf
        obtain ⟨r6, q5, hf⟩ := hf
        refine w_callV [.int (9 : Int32)] [] (tX12_digit (9 : Int32) r4.2 r6 q5) (cvX12_54 rfl) dX12_readsCorner_38 rfl rfl (by decide) (by decide) rfl (Nat.le_of_ble_eq_true rfl) ?_
        show sm_W _ _ _ _ _ 41 [.ref 72, .int r4.1, .retAddr 0] [.int r6.1] (sm_hp r6.2)
        refine w_blk bX12_readsCorner_41 [.ref 72, .int r4.1, .int r6.1] [.int r6.1] (sm_hp r6.2) [] rfl (sm_on) ?_
        refine w_if_ge (tgt := 48) dX12_readsCorner_43 rfl (fun hc => ?_) (fun hc => ?_)
        · replace hf := sm_ift hc hf
          replace hf := sm_ck hf
          obtain ⟨q7, hf⟩ := hf
          replace hf := sm_ck hf
          obtain ⟨q8, hf⟩ := hf
          refine w_blk bX12_readsCorner_48 [.ref 72, .int r4.1, .int r6.1] [.int (1 : Int32)] (sm_hp (sm_w1 (sm_w1 (sm_w1 r6.2 74 (r6.2.1 72 24).toNatClampNeg r4.1) 75 (r6.2.1 72 24).toNatClampNeg r6.1) 72 24 ((r6.2.1 72 24) + (1 : Int32)))) [((r6.2.1 72 24), 10), ((r6.2.1 72 24), 10)] rfl (sm_oc q7 (sm_oc q8 (sm_on))) ?_
          obtain rfl := Option.some.inj hf
          exact w_reti dX12_readsCorner_79 rfl sm_nb1
        · replace hf := sm_iff hc hf
          refine w_blk bX12_readsCorner_46 [.ref 72, .int r4.1, .int r6.1] [.int (0 : Int32)] (sm_hp r6.2) [] rfl (sm_on) ?_
          obtain rfl := Option.some.inj hf
          exact w_reti dX12_readsCorner_47 rfl sm_nb0
      · replace hf := sm_iff hc hf
        refine w_blk bX12_readsCorner_31 [.ref 72, .int r4.1, .retAddr 0] [.int (-1 : Int32)] (sm_hp r4.2) [] rfl (sm_on) ?_
        refine w_goto (tgt := 41) dX12_readsCorner_32 rfl ?_
        refine w_blk bX12_readsCorner_41 [.ref 72, .int r4.1, .int (-1 : Int32)] [.int (-1 : Int32)] (sm_hp r4.2) [] rfl (sm_on) ?_
        refine w_if_ge (tgt := 48) dX12_readsCorner_43 rfl (fun hc => absurd hc (by decide)) (fun _ => ?_)
        refine w_blk bX12_readsCorner_46 [.ref 72, .int r4.1, .int (-1 : Int32)] [.int (0 : Int32)] (sm_hp r4.2) [] rfl (sm_on) ?_
        obtain rfl := Option.some.inj hf
        exact w_reti dX12_readsCorner_47 rfl sm_nb0
    · replace hf := sm_ift hc hf
      refine w_blk bX12_readsCorner_18 [.ref 72, .retAddr 0, .retAddr 0] [.int (0 : Int32)] (sm_hp r2.2) [] rfl (sm_on) ?_
      obtain rfl := Option.some.inj hf
      exact w_reti dX12_readsCorner_19 rfl sm_nb0
set_option maxRecDepth 10000 in
theorem tX12_land_48 {l : Launch} {al : Bool} : ∀ (n : Nat) (v1 : Int32) (v2 : Int32) (v3 : Int32) (v4 : Int32) (m : sm_S) (r : Int32 × sm_S), fX12_land_48 n v1 v2 v3 v4 m = some r → sm_W l mX12_land 6 al (some (.int r.1), sm_hp r.2) 48 [.ref 72, .int v1, .int v2, .int v3, .int v4, .retAddr 0] [] (sm_hp m) := by
  intro n
  induction n with
  | zero =>
    intro v1 v2 v3 v4 m r hf
    unfold fX12_land_48 at hf
    cases hf
  | succ n ih =>
    intro v1 v2 v3 v4 m r hf
    unfold fX12_land_48 at hf
    refine w_blk bX12_land_48 [.ref 72, .int v1, .int v2, .int v3, .int v4, .retAddr 0] [.int v4] (sm_hp m) [] rfl (sm_on) ?_
    refine w_if_eq (tgt := 100) dX12_land_50 rfl (fun hc => ?_) (fun hc => ?_)
    · replace hf := sm_ift hc hf
      refine w_blk bX12_land_100 [.ref 72, .int v1, .int v2, .int v3, .int v4, .retAddr 0] [.int v3, .int (76 : Int32), .int v1, .ref 72] (sm_hp m) [] rfl (sm_on) ?_
      replace hf := sm_bd hf
      obtain ⟨r4, q3, hf⟩ := hf
      refine w_callV [.int v1, .int (76 : Int32), .int v3] [] (tX12_faultOf v1 (76 : Int32) v3 m r4 q3) (cvX12_119 rfl) dX12_land_105 rfl rfl (by decide) (by decide) rfl (Nat.le_of_ble_eq_true rfl) ?_
      show sm_W _ _ _ _ _ 108 [.ref 72, .int v1, .int v2, .int v3, .int v4, .retAddr 0] [.int r4] (sm_hp m)
      refine w_blk bX12_land_108 [.ref 72, .int v1, .int v2, .int v3, .int v4, .int r4] [.int r4] (sm_hp m) [] rfl (sm_on) ?_
      refine w_if_ge (tgt := 118) dX12_land_112 rfl (fun hc => ?_) (fun hc => ?_)
      · replace hf := sm_ift hc hf
        refine w_blk bX12_land_118 [.ref 72, .int v1, .int v2, .int v3, .int v4, .int r4] [.int v1, .ref 72] (sm_hp (sm_w1 (sm_w1 (sm_w1 m 72 3 (m.1 72 24)) 72 6 (m.1 72 25)) 72 14 ((m.1 72 14) ||| (m.1 72 26)))) [] rfl (sm_on) ?_
        refine w_if_le (tgt := 156) dX12_land_149 rfl (fun hc => ?_) (fun hc => ?_)
        · replace hf := sm_ift hc hf
          refine w_blk bX12_land_156 [.ref 72, .int v1, .int v2, .int v3, .int v4, .int r4] [.int (m.1 72 27), .ref 72] (sm_hp (sm_w1 (sm_w1 (sm_w1 m 72 3 (m.1 72 24)) 72 6 (m.1 72 25)) 72 14 ((m.1 72 14) ||| (m.1 72 26)))) [] rfl (sm_on) ?_
          refine w_blk bX12_land_160 [.ref 72, .int v1, .int v2, .int v3, .int v4, .int r4] [.int v2] (sm_hp (sm_w1 (sm_w1 (sm_w1 (sm_w1 m 72 3 (m.1 72 24)) 72 6 (m.1 72 25)) 72 14 ((m.1 72 14) ||| (m.1 72 26))) 72 27 (m.1 72 27))) [] rfl (sm_on) ?_
          obtain rfl := Option.some.inj hf
          exact w_reti dX12_land_164 rfl rfl
        · replace hf := sm_iff hc hf
          refine w_blk bX12_land_152 [.ref 72, .int v1, .int v2, .int v3, .int v4, .int r4] [.int (0 : Int32), .ref 72] (sm_hp (sm_w1 (sm_w1 (sm_w1 m 72 3 (m.1 72 24)) 72 6 (m.1 72 25)) 72 14 ((m.1 72 14) ||| (m.1 72 26)))) [] rfl (sm_on) ?_
          refine w_goto (tgt := 160) dX12_land_153 rfl ?_
          refine w_blk bX12_land_160 [.ref 72, .int v1, .int v2, .int v3, .int v4, .int r4] [.int v2] (sm_hp (sm_w1 (sm_w1 (sm_w1 (sm_w1 m 72 3 (m.1 72 24)) 72 6 (m.1 72 25)) 72 14 ((m.1 72 14) ||| (m.1 72 26))) 72 27 (0 : Int32))) [] rfl (sm_on) ?_
          obtain rfl := Option.some.inj hf
          exact w_reti dX12_land_164 rfl rfl
      · replace hf := sm_iff hc hf
        refine w_blk bX12_land_115 [.ref 72, .int v1, .int v2, .int v3, .int v4, .int r4] [.int r4] (sm_hp m) [] rfl (sm_on) ?_
        obtain rfl := Option.some.inj hf
        exact w_reti dX12_land_117 rfl rfl
    · replace hf := sm_iff hc hf
      refine w_blk bX12_land_53 [.ref 72, .int v1, .int v2, .int v3, .int v4, .retAddr 0] [.int (64 : Int32), .ref 72] (sm_hp m) [] rfl (sm_on) ?_
      replace hf := sm_bd hf
      obtain ⟨r6, q5, hf⟩ := hf
      refine w_callV [.int (64 : Int32)] [] (tX12_isAt (64 : Int32) m r6 q5) (cvX12_110 rfl) dX12_land_56 rfl rfl (by decide) (by decide) rfl (Nat.le_of_ble_eq_true rfl) ?_
      show sm_W _ _ _ _ _ 59 [.ref 72, .int v1, .int v2, .int v3, .int v4, .retAddr 0] [.int r6] (sm_hp m)
      refine w_if_eq (tgt := 69) dX12_land_59 rfl (fun hc => ?_) (fun hc => ?_)
      · replace hf := sm_ift hc hf
        refine w_blk bX12_land_69 [.ref 72, .int v1, .int v2, .int v3, .int v4, .retAddr 0] [.ref 72] (sm_hp m) [] rfl (sm_on) ?_
        replace hf := sm_bd hf
        obtain ⟨r8, q7, hf⟩ := hf
        refine w_callV [] [] (tX12_readsHedge m r8 q7) (cvX12_116 rfl) dX12_land_70 rfl rfl (by decide) (by decide) rfl (Nat.le_of_ble_eq_true rfl) ?_
        show sm_W _ _ _ _ _ 73 [.ref 72, .int v1, .int v2, .int v3, .int v4, .retAddr 0] [.int r8.1] (sm_hp r8.2)
        refine w_blk bX12_land_73 [.ref 72, .int v1, .int (v2 + (1 : Int32)), .int r8.1, .int v4, .retAddr 0] [.int r8.1] (sm_hp r8.2) [] rfl (sm_on) ?_
        refine w_if_eq (tgt := 94) dX12_land_78 rfl (fun hc => ?_) (fun hc => ?_)
        · replace hf := sm_ift hc hf
          refine w_blk bX12_land_94 [.ref 72, .int v1, .int (v2 + (1 : Int32)), .int r8.1, .int v4, .retAddr 0] [.int (0 : Int32)] (sm_hp r8.2) [] rfl (sm_on) ?_
          refine w_blk bX12_land_95 [.ref 72, .int v1, .int (v2 + (1 : Int32)), .int r8.1, .int (0 : Int32), .retAddr 0] [] (sm_hp r8.2) [] rfl (sm_on) ?_
          refine w_goto (tgt := 48) dX12_land_97 rfl ?_
          exact ih v1 (v2 + (1 : Int32)) r8.1 (0 : Int32) r8.2 r hf
        · replace hf := sm_iff hc hf
          refine w_blk bX12_land_81 [.ref 72, .int v1, .int (v2 + (1 : Int32)), .int r8.1, .int v4, .retAddr 0] [.int (59 : Int32), .ref 72] (sm_hp r8.2) [] rfl (sm_on) ?_
          replace hf := sm_bd hf
          obtain ⟨r10, q9, hf⟩ := hf
          refine w_callV [.int (59 : Int32)] [] (tX12_takes (59 : Int32) r8.2 r10 q9) (cvX12_61 rfl) dX12_land_84 rfl rfl (by decide) (by decide) rfl (Nat.le_of_ble_eq_true rfl) ?_
          show sm_W _ _ _ _ _ 87 [.ref 72, .int v1, .int (v2 + (1 : Int32)), .int r8.1, .int v4, .retAddr 0] [.int r10.1] (sm_hp r10.2)
          refine w_if_eq (tgt := 94) dX12_land_87 rfl (fun hc => ?_) (fun hc => ?_)
          · replace hf := sm_ift hc hf
            refine w_blk bX12_land_94 [.ref 72, .int v1, .int (v2 + (1 : Int32)), .int r8.1, .int v4, .retAddr 0] [.int (0 : Int32)] (sm_hp r10.2) [] rfl (sm_on) ?_
            refine w_blk bX12_land_95 [.ref 72, .int v1, .int (v2 + (1 : Int32)), .int r8.1, .int (0 : Int32), .retAddr 0] [] (sm_hp r10.2) [] rfl (sm_on) ?_
            refine w_goto (tgt := 48) dX12_land_97 rfl ?_
            exact ih v1 (v2 + (1 : Int32)) r8.1 (0 : Int32) r10.2 r hf
          · replace hf := sm_iff hc hf
            refine w_blk bX12_land_90 [.ref 72, .int v1, .int (v2 + (1 : Int32)), .int r8.1, .int v4, .retAddr 0] [.int (1 : Int32)] (sm_hp r10.2) [] rfl (sm_on) ?_
            refine w_goto (tgt := 95) dX12_land_91 rfl ?_
            refine w_blk bX12_land_95 [.ref 72, .int v1, .int (v2 + (1 : Int32)), .int r8.1, .int (1 : Int32), .retAddr 0] [] (sm_hp r10.2) [] rfl (sm_on) ?_
            refine w_goto (tgt := 48) dX12_land_97 rfl ?_
            exact ih v1 (v2 + (1 : Int32)) r8.1 (1 : Int32) r10.2 r hf
      · replace hf := sm_iff hc hf
        refine w_blk bX12_land_62 [.ref 72, .int v1, .int v2, .int v3, .int v4, .retAddr 0] [.ref 72] (sm_hp m) [] rfl (sm_on) ?_
        replace hf := sm_bd hf
        obtain ⟨r12, q11, hf⟩ := hf
        refine w_callV [] [] (tX12_readsCorner m r12 q11) (cvX12_113 rfl) dX12_land_63 rfl rfl (by decide) (by decide) rfl (Nat.le_of_ble_eq_true rfl) ?_
        show sm_W _ _ _ _ _ 66 [.ref 72, .int v1, .int v2, .int v3, .int v4, .retAddr 0] [.int r12.1] (sm_hp r12.2)
        refine w_goto (tgt := 73) dX12_land_66 rfl ?_
        refine w_blk bX12_land_73 [.ref 72, .int v1, .int (v2 + (1 : Int32)), .int r12.1, .int v4, .retAddr 0] [.int r12.1] (sm_hp r12.2) [] rfl (sm_on) ?_
        refine w_if_eq (tgt := 94) dX12_land_78 rfl (fun hc => ?_) (fun hc => ?_)
        · replace hf := sm_ift hc hf
          refine w_blk bX12_land_94 [.ref 72, .int v1, .int (v2 + (1 : Int32)), .int r12.1, .int v4, .retAddr 0] [.int (0 : Int32)] (sm_hp r12.2) [] rfl (sm_on) ?_
          refine w_blk bX12_land_95 [.ref 72, .int v1, .int (v2 + (1 : Int32)), .int r12.1, .int (0 : Int32), .retAddr 0] [] (sm_hp r12.2) [] rfl (sm_on) ?_
          refine w_goto (tgt := 48) dX12_land_97 rfl ?_
          exact ih v1 (v2 + (1 : Int32)) r12.1 (0 : Int32) r12.2 r hf
        · replace hf := sm_iff hc hf
          refine w_blk bX12_land_81 [.ref 72, .int v1, .int (v2 + (1 : Int32)), .int r12.1, .int v4, .retAddr 0] [.int (59 : Int32), .ref 72] (sm_hp r12.2) [] rfl (sm_on) ?_
          replace hf := sm_bd hf
          obtain ⟨r14, q13, hf⟩ := hf
          refine w_callV [.int (59 : Int32)] [] (tX12_takes (59 : Int32) r12.2 r14 q13) (cvX12_61 rfl) dX12_land_84 rfl rfl (by decide) (by decide) rfl (Nat.le_of_ble_eq_true rfl) ?_
          show sm_W _ _ _ _ _ 87 [.ref 72, .int v1, .int (v2 + (1 : Int32)), .int r12.1, .int v4, .retAddr 0] [.int r14.1] (sm_hp r14.2)
          refine w_if_eq (tgt := 94) dX12_land_87 rfl (fun hc => ?_) (fun hc => ?_)
          · replace hf := sm_ift hc hf
            refine w_blk bX12_land_94 [.ref 72, .int v1, .int (v2 + (1 : Int32)), .int r12.1, .int v4, .retAddr 0] [.int (0 : Int32)] (sm_hp r14.2) [] rfl (sm_on) ?_
            refine w_blk bX12_land_95 [.ref 72, .int v1, .int (v2 + (1 : Int32)), .int r12.1, .int (0 : Int32), .retAddr 0] [] (sm_hp r14.2) [] rfl (sm_on) ?_
            refine w_goto (tgt := 48) dX12_land_97 rfl ?_
            exact ih v1 (v2 + (1 : Int32)) r12.1 (0 : Int32) r14.2 r hf
          · replace hf := sm_iff hc hf
            refine w_blk bX12_land_90 [.ref 72, .int v1, .int (v2 + (1 : Int32)), .int r12.1, .int v4, .retAddr 0] [.int (1 : Int32)] (sm_hp r14.2) [] rfl (sm_on) ?_
            refine w_goto (tgt := 95) dX12_land_91 rfl ?_
            refine w_blk bX12_land_95 [.ref 72, .int v1, .int (v2 + (1 : Int32)), .int r12.1, .int (1 : Int32), .retAddr 0] [] (sm_hp r14.2) [] rfl (sm_on) ?_
            refine w_goto (tgt := 48) dX12_land_97 rfl ?_
            exact ih v1 (v2 + (1 : Int32)) r12.1 (1 : Int32) r14.2 r hf
set_option maxRecDepth 10000 in
theorem tX12_land {l : Launch} {al : Bool} (m : sm_S) (r : Int32 × sm_S) (hf : fX12_land m = some r) : sm_Rt l mX12_land 6 0 0 al al [.ref 72] (sm_hp m) (some (.int r.1), sm_hp r.2) := by
  refine sm_Rt.ofW (L := [.ref 72, .retAddr 0, .retAddr 0, .retAddr 0, .retAddr 0, .retAddr 0]) (by decide) (Nat.le_of_ble_eq_true rfl) rfl ?_
  unfold fX12_land at hf
  refine w_blk bX12_land_0 [.ref 72, .retAddr 0, .retAddr 0, .retAddr 0, .retAddr 0, .retAddr 0] [.int (76 : Int32), .ref 72] (sm_hp (sm_w1 m 72 0 (0 : Int32))) [] rfl (sm_on) ?_
  replace hf := sm_bd hf
  obtain ⟨r2, q1, hf⟩ := hf
  refine w_callV [.int (76 : Int32)] [] (tX12_begins (76 : Int32) (sm_w1 m 72 0 (0 : Int32)) r2 q1) (cvX12_107 rfl) dX12_land_8 rfl rfl (by decide) (by decide) rfl (Nat.le_of_ble_eq_true rfl) ?_
  show sm_W _ _ _ _ _ 11 [.ref 72, .retAddr 0, .retAddr 0, .retAddr 0, .retAddr 0, .retAddr 0] [.int r2.1] (sm_hp r2.2)
  refine w_blk bX12_land_11 [.ref 72, .int r2.1, .int (0 : Int32), .int (1 : Int32), .retAddr 0, .retAddr 0] [.int r2.1] (sm_hp (sm_w1 (sm_w1 (sm_w1 r2.2 72 24 (r2.2.1 72 3)) 72 25 (r2.2.1 72 6)) 72 26 (0 : Int32))) [] rfl (sm_on) ?_
  refine w_if_le (tgt := 45) dX12_land_38 rfl (fun hc => ?_) (fun hc => ?_)
  · replace hf := sm_ift hc hf
    refine w_blk bX12_land_45 [.ref 72, .int r2.1, .int (0 : Int32), .int (1 : Int32), .retAddr 0, .retAddr 0] [.int (0 : Int32)] (sm_hp (sm_w1 (sm_w1 (sm_w1 r2.2 72 24 (r2.2.1 72 3)) 72 25 (r2.2.1 72 6)) 72 26 (0 : Int32))) [] rfl (sm_on) ?_
    refine w_blk bX12_land_46 [.ref 72, .int r2.1, .int (0 : Int32), .int (1 : Int32), .int (0 : Int32), .retAddr 0] [] (sm_hp (sm_w1 (sm_w1 (sm_w1 r2.2 72 24 (r2.2.1 72 3)) 72 25 (r2.2.1 72 6)) 72 26 (0 : Int32))) [] rfl (sm_on) ?_
    exact tX12_land_48 sm_fu r2.1 (0 : Int32) (1 : Int32) (0 : Int32) (sm_w1 (sm_w1 (sm_w1 r2.2 72 24 (r2.2.1 72 3)) 72 25 (r2.2.1 72 6)) 72 26 (0 : Int32)) r hf
  · replace hf := sm_iff hc hf
    refine w_blk bX12_land_41 [.ref 72, .int r2.1, .int (0 : Int32), .int (1 : Int32), .retAddr 0, .retAddr 0] [.int (1 : Int32)] (sm_hp (sm_w1 (sm_w1 (sm_w1 r2.2 72 24 (r2.2.1 72 3)) 72 25 (r2.2.1 72 6)) 72 26 (0 : Int32))) [] rfl (sm_on) ?_
    refine w_goto (tgt := 46) dX12_land_42 rfl ?_
    refine w_blk bX12_land_46 [.ref 72, .int r2.1, .int (0 : Int32), .int (1 : Int32), .int (1 : Int32), .retAddr 0] [] (sm_hp (sm_w1 (sm_w1 (sm_w1 r2.2 72 24 (r2.2.1 72 3)) 72 25 (r2.2.1 72 6)) 72 26 (0 : Int32))) [] rfl (sm_on) ?_
    exact tX12_land_48 sm_fu r2.1 (0 : Int32) (1 : Int32) (1 : Int32) (sm_w1 (sm_w1 (sm_w1 r2.2 72 24 (r2.2.1 72 3)) 72 25 (r2.2.1 72 6)) 72 26 (0 : Int32)) r hf
set_option maxRecDepth 10000 in
theorem tX12_isHedge {l : Launch} {al : Bool} (x1 : Int32) (m : sm_S) (r : Int32) (hf : fX12_isHedge x1 m = some r) : sm_Rt l mX12_isHedge 2 0 0 al al [.ref 72, .int x1] (sm_hp m) (some (.int r), sm_hp m) := by
  refine sm_Rt.ofW (L := [.ref 72, .int x1]) (by decide) (Nat.le_of_ble_eq_true rfl) rfl ?_
  unfold fX12_isHedge at hf
  refine w_blk bX12_isHedge_0 [.ref 72, .int x1] [.long (((m.1 72 6) - (1 : Int32))).toInt64, .long (0 : Int64), .long (x1).toInt64] (sm_hp m) [] rfl (sm_on) ?_
  replace hf := sm_bd hf
  obtain ⟨r2, q1, hf⟩ := hf
  refine w_callS [.long (x1).toInt64, .long (0 : Int64), .long (((m.1 72 6) - (1 : Int32))).toInt64] [] (tX12_in (x1).toInt64 (0 : Int64) (((m.1 72 6) - (1 : Int32))).toInt64 m r2 q1) (csX12_17 rfl) dX12_isHedge_10 rfl rfl (by decide) (by decide) (Nat.le_of_ble_eq_true rfl) ?_
  show sm_W _ _ _ _ _ 13 [.ref 72, .int x1] [.int r2] (sm_hp m)
  replace hf := sm_ck hf
  obtain ⟨q3, hf⟩ := hf
  obtain rfl := Option.some.inj hf
  exact w_reti dX12_isHedge_13 rfl q3
set_option maxRecDepth 10000 in
theorem tX12_refuse {l : Launch} {al : Bool} (m : sm_S) (r : Int32 × sm_S) (hf : fX12_refuse m = some r) : sm_Rt l mX12_refuse 1 0 0 al al [.ref 72] (sm_hp m) (some (.int r.1), sm_hp r.2) := by
  refine sm_Rt.ofW (L := [.ref 72]) (by decide) (Nat.le_of_ble_eq_true rfl) rfl ?_
  unfold fX12_refuse at hf
  refine w_blk bX12_refuse_0 [.ref 72] [.int (0 : Int32)] (sm_hp (sm_w1 m 72 0 (1 : Int32))) [] rfl (sm_on) ?_
  obtain rfl := Option.some.inj hf
  exact w_reti dX12_refuse_6 rfl rfl
set_option maxRecDepth 10000 in
theorem tX12_has {l : Launch} {al : Bool} (x1 : Int32) (x2 : Int32) (m : sm_S) (r : Int32) (hf : fX12_has x1 x2 m = some r) : sm_Rt l mX12_has 1 0 0 al al [.int x1, .int x2] (sm_hp m) (some (.int r), sm_hp m) := by
  refine sm_Rt.ofW (L := [.int x1, .int x2]) (by decide) (Nat.le_of_ble_eq_true rfl) rfl ?_
  unfold fX12_has at hf
  refine w_blk bX12_has_0 [.int x1, .int x2] [.int (1 : Int32), .int ((x1 >>> (x2 &&& 31)) &&& (1 : Int32))] (sm_hp m) [] rfl (sm_on) ?_
  refine w_icmp_ne (tgt := 13) dX12_has_6 rfl (fun hc => ?_) (fun hc => ?_)
  · replace hf := sm_iff hc hf
    refine w_blk bX12_has_13 [.int x1, .int x2] [.int (0 : Int32)] (sm_hp m) [] rfl (sm_on) ?_
    obtain rfl := Option.some.inj hf
    exact w_reti dX12_has_14 rfl sm_nb0
  · replace hf := sm_ift hc hf
    refine w_blk bX12_has_9 [.int x1, .int x2] [.int (1 : Int32)] (sm_hp m) [] rfl (sm_on) ?_
    refine w_goto (tgt := 14) dX12_has_10 rfl ?_
    obtain rfl := Option.some.inj hf
    exact w_reti dX12_has_14 rfl sm_nb1
set_option maxRecDepth 10000 in
theorem tX12_dayOf {l : Launch} {al : Bool} (x1 : Int32) (m : sm_S) (r : Int32) (hf : fX12_dayOf x1 m = some r) : sm_Rt l mX12_dayOf 1 0 0 al al [.int x1] (sm_hp m) (some (.int r), sm_hp m) := by
  refine sm_Rt.ofW (L := [.int x1]) (by decide) (Nat.le_of_ble_eq_true rfl) rfl ?_
  unfold fX12_dayOf at hf
  refine w_blk bX12_dayOf_0 [.int x1] [.int (x1 / (60 : Int32))] (sm_hp m) [] rfl (sm_on) ?_
  obtain rfl := Option.some.inj hf
  exact w_reti dX12_dayOf_4 rfl rfl
set_option maxRecDepth 10000 in
theorem tX12_isFresh {l : Launch} {al : Bool} (x1 : Int32) (x2 : Int32) (m : sm_S) (r : Int32) (hf : fX12_isFresh x1 x2 m = some r) : sm_Rt l mX12_isFresh 2 0 0 al al [.ref 72, .int x1, .int x2] (sm_hp m) (some (.int r), sm_hp m) := by
  refine sm_Rt.ofW (L := [.ref 72, .int x1, .int x2]) (by decide) (Nat.le_of_ble_eq_true rfl) rfl ?_
  unfold fX12_isFresh at hf
  replace hf := sm_ck hf
  obtain ⟨q1, hf⟩ := hf
  refine w_blk bX12_isFresh_0 [.ref 72, .int x1, .int x2] [.int (m.1 83 (x1).toNatClampNeg)] (sm_hp m) [(x1, 14)] rfl (sm_oc q1 (sm_on)) ?_
  refine w_if_lt (tgt := 27) dX12_isFresh_6 rfl (fun hc => ?_) (fun hc => ?_)
  · replace hf := sm_ift hc hf
    refine w_blk bX12_isFresh_27 [.ref 72, .int x1, .int x2] [.int (1 : Int32)] (sm_hp m) [] rfl (sm_on) ?_
    refine w_goto (tgt := 32) dX12_isFresh_28 rfl ?_
    obtain rfl := Option.some.inj hf
    exact w_reti dX12_isFresh_32 rfl sm_nb1
  · replace hf := sm_iff hc hf
    refine w_blk bX12_isFresh_9 [.ref 72, .int x1, .int x2] [.int x2] (sm_hp m) [] rfl (sm_on) ?_
    replace hf := sm_bd hf
    obtain ⟨r3, q2, hf⟩ := hf
    refine w_callS [.int x2] [] (tX12_dayOf x2 m r3 q2) (csX12_129 rfl) dX12_isFresh_10 rfl rfl (by decide) (by decide) (Nat.le_of_ble_eq_true rfl) ?_
    show sm_W _ _ _ _ _ 13 [.ref 72, .int x1, .int x2] [.int r3] (sm_hp m)
    replace hf := sm_ck hf
    obtain ⟨q4, hf⟩ := hf
    refine w_blk bX12_isFresh_13 [.ref 72, .int x1, .int x2] [.int (m.1 72 15), .int (r3 - (m.1 83 (x1).toNatClampNeg))] (sm_hp m) [(x1, 14)] rfl (sm_oc q4 (sm_on)) ?_
    refine w_icmp_lt (tgt := 31) dX12_isFresh_24 rfl (fun hc => ?_) (fun hc => ?_)
    · replace hf := sm_ift hc hf
      refine w_blk bX12_isFresh_31 [.ref 72, .int x1, .int x2] [.int (0 : Int32)] (sm_hp m) [] rfl (sm_on) ?_
      obtain rfl := Option.some.inj hf
      exact w_reti dX12_isFresh_32 rfl sm_nb0
    · replace hf := sm_iff hc hf
      refine w_blk bX12_isFresh_27 [.ref 72, .int x1, .int x2] [.int (1 : Int32)] (sm_hp m) [] rfl (sm_on) ?_
      refine w_goto (tgt := 32) dX12_isFresh_28 rfl ?_
      obtain rfl := Option.some.inj hf
      exact w_reti dX12_isFresh_32 rfl sm_nb1
set_option maxRecDepth 10000 in
theorem tX12_hedge {l : Launch} {al : Bool} (x1 : Int32) (x2 : Int32) (m : sm_S) (r : Int32 × sm_S) (hf : fX12_hedge x1 x2 m = some r) : sm_Rt l mX12_hedge 3 0 0 al al [.ref 72, .int x1, .int x2] (sm_hp m) (some (.int r.1), sm_hp r.2) := by
  refine sm_Rt.ofW (L := [.ref 72, .int x1, .int x2]) (by decide) (Nat.le_of_ble_eq_true rfl) rfl ?_
  unfold fX12_hedge at hf
  refine w_blk bX12_hedge_0 [.ref 72, .int x1, .int x2] [.int x1, .ref 72] (sm_hp (sm_w1 m 72 0 (0 : Int32))) [] rfl (sm_on) ?_
  replace hf := sm_bd hf
  obtain ⟨r2, q1, hf⟩ := hf
  refine w_callV [.int x1] [] (tX12_isHedge x1 (sm_w1 m 72 0 (0 : Int32)) r2 q1) (cvX12_135 rfl) dX12_hedge_7 rfl rfl (by decide) (by decide) rfl (Nat.le_of_ble_eq_true rfl) ?_
  show sm_W _ _ _ _ _ 10 [.ref 72, .int x1, .int x2] [.int r2] (sm_hp (sm_w1 m 72 0 (0 : Int32)))
  refine w_if_eq (tgt := 25) dX12_hedge_10 rfl (fun hc => ?_) (fun hc => ?_)
  · replace hf := sm_ift hc hf
    refine w_blk bX12_hedge_25 [.ref 72, .int x1, .int x2] [.ref 72] (sm_hp (sm_w1 m 72 0 (0 : Int32))) [] rfl (sm_on) ?_
    replace hf := sm_bd hf
    obtain ⟨r4, q3, hf⟩ := hf
    refine w_callV [] [] (tX12_refuse (sm_w1 m 72 0 (0 : Int32)) r4 q3) (cvX12_140 rfl) dX12_hedge_26 rfl rfl (by decide) (by decide) rfl (Nat.le_of_ble_eq_true rfl) ?_
    show sm_W _ _ _ _ _ 29 [.ref 72, .int x1, .int x2] [.int r4.1] (sm_hp r4.2)
    obtain rfl := Option.some.inj hf
    exact w_reti dX12_hedge_29 rfl rfl
  · replace hf := sm_iff hc hf
    refine w_blk bX12_hedge_13 [.ref 72, .int x1, .int x2] [.long (8 : Int64), .long (0 : Int64), .long (x2).toInt64] (sm_hp (sm_w1 m 72 0 (0 : Int32))) [] rfl (sm_on) ?_
    replace hf := sm_bd hf
    obtain ⟨r6, q5, hf⟩ := hf
    refine w_callS [.long (x2).toInt64, .long (0 : Int64), .long (8 : Int64)] [] (tX12_in (x2).toInt64 (0 : Int64) (8 : Int64) (sm_w1 m 72 0 (0 : Int32)) r6 q5) (csX12_17 rfl) dX12_hedge_19 rfl rfl (by decide) (by decide) (Nat.le_of_ble_eq_true rfl) ?_
    show sm_W _ _ _ _ _ 22 [.ref 72, .int x1, .int x2] [.int r6] (sm_hp (sm_w1 m 72 0 (0 : Int32)))
    refine w_if_ne (tgt := 30) dX12_hedge_22 rfl (fun hc => ?_) (fun hc => ?_)
    · replace hf := sm_iff hc hf
      refine w_blk bX12_hedge_30 [.ref 72, .int x1, .int x2] [.int x2] (sm_hp (sm_w1 m 72 0 (0 : Int32))) [] rfl (sm_on) ?_
      by_cases hc7 : x2 = (0 : Int32)
      · replace hf := sm_ift hc7 hf
        refine w_tableIn (off := 45) (tgt := 76) dX12_hedge_31 (by rw [hc7]; decide) (by rw [hc7]; decide) (by rw [hc7]; rfl) rfl ?_
        replace hf := sm_ck hf
        obtain ⟨q8, hf⟩ := hf
        refine w_blk bX12_hedge_76 [.ref 72, .int x1, .int x2] [.int (m.1 76 (x1).toNatClampNeg)] (sm_hp (sm_w1 m 72 0 (0 : Int32))) [(x1, 14)] rfl (sm_oc q8 (sm_on)) ?_
        obtain rfl := Option.some.inj hf
        exact w_reti dX12_hedge_82 rfl rfl
      · replace hf := sm_iff hc7 hf
        by_cases hc9 : x2 = (1 : Int32)
        · replace hf := sm_ift hc9 hf
          refine w_tableIn (off := 52) (tgt := 83) dX12_hedge_31 (by rw [hc9]; decide) (by rw [hc9]; decide) (by rw [hc9]; rfl) rfl ?_
          replace hf := sm_ck hf
          obtain ⟨q10, hf⟩ := hf
          refine w_blk bX12_hedge_83 [.ref 72, .int x1, .int x2] [.int (m.1 77 (x1).toNatClampNeg)] (sm_hp (sm_w1 m 72 0 (0 : Int32))) [(x1, 14)] rfl (sm_oc q10 (sm_on)) ?_
          obtain rfl := Option.some.inj hf
          exact w_reti dX12_hedge_89 rfl rfl
        · replace hf := sm_iff hc9 hf
          by_cases hc11 : x2 = (2 : Int32)
          · replace hf := sm_ift hc11 hf
            refine w_tableIn (off := 59) (tgt := 90) dX12_hedge_31 (by rw [hc11]; decide) (by rw [hc11]; decide) (by rw [hc11]; rfl) rfl ?_
            replace hf := sm_ck hf
            obtain ⟨q12, hf⟩ := hf
            refine w_blk bX12_hedge_90 [.ref 72, .int x1, .int x2] [.int (m.1 78 (x1).toNatClampNeg)] (sm_hp (sm_w1 m 72 0 (0 : Int32))) [(x1, 14)] rfl (sm_oc q12 (sm_on)) ?_
            obtain rfl := Option.some.inj hf
            exact w_reti dX12_hedge_96 rfl rfl
          · replace hf := sm_iff hc11 hf
            by_cases hc13 : x2 = (3 : Int32)
            · replace hf := sm_ift hc13 hf
              refine w_tableIn (off := 66) (tgt := 97) dX12_hedge_31 (by rw [hc13]; decide) (by rw [hc13]; decide) (by rw [hc13]; rfl) rfl ?_
              replace hf := sm_ck hf
              obtain ⟨q14, hf⟩ := hf
              refine w_blk bX12_hedge_97 [.ref 72, .int x1, .int x2] [.int (m.1 79 (x1).toNatClampNeg)] (sm_hp (sm_w1 m 72 0 (0 : Int32))) [(x1, 14)] rfl (sm_oc q14 (sm_on)) ?_
              obtain rfl := Option.some.inj hf
              exact w_reti dX12_hedge_103 rfl rfl
            · replace hf := sm_iff hc13 hf
              by_cases hc15 : x2 = (4 : Int32)
              · replace hf := sm_ift hc15 hf
                refine w_tableIn (off := 73) (tgt := 104) dX12_hedge_31 (by rw [hc15]; decide) (by rw [hc15]; decide) (by rw [hc15]; rfl) rfl ?_
                replace hf := sm_ck hf
                obtain ⟨q16, hf⟩ := hf
                refine w_blk bX12_hedge_104 [.ref 72, .int x1, .int x2] [.int (m.1 80 (x1).toNatClampNeg)] (sm_hp (sm_w1 m 72 0 (0 : Int32))) [(x1, 14)] rfl (sm_oc q16 (sm_on)) ?_
                obtain rfl := Option.some.inj hf
                exact w_reti dX12_hedge_110 rfl rfl
              · replace hf := sm_iff hc15 hf
                by_cases hc17 : x2 = (5 : Int32)
                · replace hf := sm_ift hc17 hf
                  refine w_tableIn (off := 80) (tgt := 111) dX12_hedge_31 (by rw [hc17]; decide) (by rw [hc17]; decide) (by rw [hc17]; rfl) rfl ?_
                  replace hf := sm_ck hf
                  obtain ⟨q18, hf⟩ := hf
                  refine w_blk bX12_hedge_111 [.ref 72, .int x1, .int x2] [.int (m.1 81 (x1).toNatClampNeg)] (sm_hp (sm_w1 m 72 0 (0 : Int32))) [(x1, 14)] rfl (sm_oc q18 (sm_on)) ?_
                  obtain rfl := Option.some.inj hf
                  exact w_reti dX12_hedge_117 rfl rfl
                · replace hf := sm_iff hc17 hf
                  by_cases hc19 : x2 = (6 : Int32)
                  · replace hf := sm_ift hc19 hf
                    refine w_tableIn (off := 87) (tgt := 118) dX12_hedge_31 (by rw [hc19]; decide) (by rw [hc19]; decide) (by rw [hc19]; rfl) rfl ?_
                    replace hf := sm_ck hf
                    obtain ⟨q20, hf⟩ := hf
                    refine w_blk bX12_hedge_118 [.ref 72, .int x1, .int x2] [.int (m.1 82 (x1).toNatClampNeg)] (sm_hp (sm_w1 m 72 0 (0 : Int32))) [(x1, 14)] rfl (sm_oc q20 (sm_on)) ?_
                    obtain rfl := Option.some.inj hf
                    exact w_reti dX12_hedge_124 rfl rfl
                  · replace hf := sm_iff hc19 hf
                    by_cases hc21 : x2 = (7 : Int32)
                    · replace hf := sm_ift hc21 hf
                      refine w_tableIn (off := 94) (tgt := 125) dX12_hedge_31 (by rw [hc21]; decide) (by rw [hc21]; decide) (by rw [hc21]; rfl) rfl ?_
                      refine w_blk bX12_hedge_125 [.ref 72, .int x1, .int x2] [.int x1, .int (m.1 72 14)] (sm_hp (sm_w1 m 72 0 (0 : Int32))) [] rfl (sm_on) ?_
                      replace hf := sm_bd hf
                      obtain ⟨r23, q22, hf⟩ := hf
                      refine w_callS [.int (m.1 72 14), .int x1] [] (tX12_has (m.1 72 14) x1 (sm_w1 m 72 0 (0 : Int32)) r23 q22) (csX12_144 rfl) dX12_hedge_130 rfl rfl (by decide) (by decide) (Nat.le_of_ble_eq_true rfl) ?_
                      show sm_W _ _ _ _ _ 133 [.ref 72, .int x1, .int x2] [.int r23] (sm_hp (sm_w1 m 72 0 (0 : Int32)))
                      replace hf := sm_bd hf
                      obtain ⟨r25, q24, hf⟩ := hf
                      refine w_callS [.int r23] [] (tX12_flag r23 (sm_w1 m 72 0 (0 : Int32)) r25 q24) (csX12_42 rfl) dX12_hedge_133 rfl rfl (by decide) (by decide) (Nat.le_of_ble_eq_true rfl) ?_
                      show sm_W _ _ _ _ _ 136 [.ref 72, .int x1, .int x2] [.int r25] (sm_hp (sm_w1 m 72 0 (0 : Int32)))
                      obtain rfl := Option.some.inj hf
                      exact w_reti dX12_hedge_136 rfl rfl
                    · replace hf := sm_iff hc21 hf
                      refine w_tableOut (tgt := 137) dX12_hedge_31 (sm_tab (n := 7) [(0 : Int32), (1 : Int32), (2 : Int32), (3 : Int32), (4 : Int32), (5 : Int32), (6 : Int32), (7 : Int32)] (by decide) (List.forall_mem_cons.mpr ⟨hc7, List.forall_mem_cons.mpr ⟨hc9, List.forall_mem_cons.mpr ⟨hc11, List.forall_mem_cons.mpr ⟨hc13, List.forall_mem_cons.mpr ⟨hc15, List.forall_mem_cons.mpr ⟨hc17, List.forall_mem_cons.mpr ⟨hc19, List.forall_mem_cons.mpr ⟨hc21, fun _ h => absurd h List.not_mem_nil⟩⟩⟩⟩⟩⟩⟩⟩)) rfl ?_
                      refine w_blk bX12_hedge_137 [.ref 72, .int x1, .int x2] [.int (m.1 72 18), .int x1, .ref 72] (sm_hp (sm_w1 m 72 0 (0 : Int32))) [] rfl (sm_on) ?_
                      replace hf := sm_bd hf
                      obtain ⟨r27, q26, hf⟩ := hf
                      refine w_callV [.int x1, .int (m.1 72 18)] [] (tX12_isFresh x1 (m.1 72 18) (sm_w1 m 72 0 (0 : Int32)) r27 q26) (cvX12_151 rfl) dX12_hedge_143 rfl rfl (by decide) (by decide) rfl (Nat.le_of_ble_eq_true rfl) ?_
                      show sm_W _ _ _ _ _ 146 [.ref 72, .int x1, .int x2] [.int r27] (sm_hp (sm_w1 m 72 0 (0 : Int32)))
                      replace hf := sm_bd hf
                      obtain ⟨r29, q28, hf⟩ := hf
                      refine w_callS [.int r27] [] (tX12_flag r27 (sm_w1 m 72 0 (0 : Int32)) r29 q28) (csX12_42 rfl) dX12_hedge_146 rfl rfl (by decide) (by decide) (Nat.le_of_ble_eq_true rfl) ?_
                      show sm_W _ _ _ _ _ 149 [.ref 72, .int x1, .int x2] [.int r29] (sm_hp (sm_w1 m 72 0 (0 : Int32)))
                      obtain rfl := Option.some.inj hf
                      exact w_reti dX12_hedge_149 rfl rfl
    · replace hf := sm_ift hc hf
      refine w_blk bX12_hedge_25 [.ref 72, .int x1, .int x2] [.ref 72] (sm_hp (sm_w1 m 72 0 (0 : Int32))) [] rfl (sm_on) ?_
      replace hf := sm_bd hf
      obtain ⟨r31, q30, hf⟩ := hf
      refine w_callV [] [] (tX12_refuse (sm_w1 m 72 0 (0 : Int32)) r31 q30) (cvX12_140 rfl) dX12_hedge_26 rfl rfl (by decide) (by decide) rfl (Nat.le_of_ble_eq_true rfl) ?_
      show sm_W _ _ _ _ _ 29 [.ref 72, .int x1, .int x2] [.int r31.1] (sm_hp r31.2)
      obtain rfl := Option.some.inj hf
      exact w_reti dX12_hedge_29 rfl rfl
set_option maxRecDepth 10000 in
theorem tX12_isCorner {l : Launch} {al : Bool} (x1 : Int32) (m : sm_S) (r : Int32) (hf : fX12_isCorner x1 m = some r) : sm_Rt l mX12_isCorner 2 0 0 al al [.ref 72, .int x1] (sm_hp m) (some (.int r), sm_hp m) := by
  refine sm_Rt.ofW (L := [.ref 72, .int x1]) (by decide) (Nat.le_of_ble_eq_true rfl) rfl ?_
  unfold fX12_isCorner at hf
  refine w_blk bX12_isCorner_0 [.ref 72, .int x1] [.long (((m.1 72 3) - (1 : Int32))).toInt64, .long (0 : Int64), .long (x1).toInt64] (sm_hp m) [] rfl (sm_on) ?_
  replace hf := sm_bd hf
  obtain ⟨r2, q1, hf⟩ := hf
  refine w_callS [.long (x1).toInt64, .long (0 : Int64), .long (((m.1 72 3) - (1 : Int32))).toInt64] [] (tX12_in (x1).toInt64 (0 : Int64) (((m.1 72 3) - (1 : Int32))).toInt64 m r2 q1) (csX12_17 rfl) dX12_isCorner_10 rfl rfl (by decide) (by decide) (Nat.le_of_ble_eq_true rfl) ?_
  show sm_W _ _ _ _ _ 13 [.ref 72, .int x1] [.int r2] (sm_hp m)
  replace hf := sm_ck hf
  obtain ⟨q3, hf⟩ := hf
  obtain rfl := Option.some.inj hf
  exact w_reti dX12_isCorner_13 rfl q3
set_option maxRecDepth 10000 in
theorem tX12_grassOf {l : Launch} {al : Bool} (x1 : Int32) (x2 : Int32) (m : sm_S) (r : Int32) (hf : fX12_grassOf x1 x2 m = some r) : sm_Rt l mX12_grassOf 1 0 0 al al [.ref 72, .int x1, .int x2] (sm_hp m) (some (.int r), sm_hp m) := by
  refine sm_Rt.ofW (L := [.ref 72, .int x1, .int x2]) (by decide) (Nat.le_of_ble_eq_true rfl) rfl ?_
  unfold fX12_grassOf at hf
  replace hf := sm_ck hf
  obtain ⟨q1, hf⟩ := hf
  replace hf := sm_ck hf
  obtain ⟨q2, hf⟩ := hf
  replace hf := sm_ck hf
  obtain ⟨q3, hf⟩ := hf
  replace hf := sm_ck hf
  obtain ⟨q4, hf⟩ := hf
  refine w_blk bX12_grassOf_0 [.ref 72, .int x1, .int x2] [.int ((2 : Int32) * ((if 0 ≤ ((m.1 74 (x1).toNatClampNeg) - (m.1 74 (x2).toNatClampNeg)) then ((m.1 74 (x1).toNatClampNeg) - (m.1 74 (x2).toNatClampNeg)) else 0 - ((m.1 74 (x1).toNatClampNeg) - (m.1 74 (x2).toNatClampNeg))) + (if 0 ≤ ((m.1 75 (x1).toNatClampNeg) - (m.1 75 (x2).toNatClampNeg)) then ((m.1 75 (x1).toNatClampNeg) - (m.1 75 (x2).toNatClampNeg)) else 0 - ((m.1 75 (x1).toNatClampNeg) - (m.1 75 (x2).toNatClampNeg)))))] (sm_hp m) [(x1, 10), (x2, 10), (x1, 10), (x2, 10)] rfl (sm_oc q1 (sm_oc q2 (sm_oc q3 (sm_oc q4 (sm_on))))) ?_
  obtain rfl := Option.some.inj hf
  exact w_reti dX12_grassOf_35 rfl rfl
set_option maxRecDepth 10000 in
theorem tX12_grass {l : Launch} {al : Bool} (x1 : Int32) (x2 : Int32) (m : sm_S) (r : Int32 × sm_S) (hf : fX12_grass x1 x2 m = some r) : sm_Rt l mX12_grass 3 0 0 al al [.ref 72, .int x1, .int x2] (sm_hp m) (some (.int r.1), sm_hp r.2) := by
  refine sm_Rt.ofW (L := [.ref 72, .int x1, .int x2]) (by decide) (Nat.le_of_ble_eq_true rfl) rfl ?_
  unfold fX12_grass at hf
  refine w_blk bX12_grass_0 [.ref 72, .int x1, .int x2] [.int x1, .ref 72] (sm_hp (sm_w1 m 72 0 (0 : Int32))) [] rfl (sm_on) ?_
  replace hf := sm_bd hf
  obtain ⟨r2, q1, hf⟩ := hf
  refine w_callV [.int x1] [] (tX12_isCorner x1 (sm_w1 m 72 0 (0 : Int32)) r2 q1) (cvX12_157 rfl) dX12_grass_7 rfl rfl (by decide) (by decide) rfl (Nat.le_of_ble_eq_true rfl) ?_
  show sm_W _ _ _ _ _ 10 [.ref 72, .int x1, .int x2] [.int r2] (sm_hp (sm_w1 m 72 0 (0 : Int32)))
  refine w_if_eq (tgt := 30) dX12_grass_10 rfl (fun hc => ?_) (fun hc => ?_)
  · replace hf := sm_ift hc hf
    refine w_blk bX12_grass_30 [.ref 72, .int x1, .int x2] [.int (-1 : Int32)] (sm_hp (sm_w1 m 72 0 (0 : Int32))) [] rfl (sm_on) ?_
    obtain rfl := Option.some.inj hf
    exact w_reti dX12_grass_31 rfl rfl
  · replace hf := sm_iff hc hf
    refine w_blk bX12_grass_13 [.ref 72, .int x1, .int x2] [.int x2, .ref 72] (sm_hp (sm_w1 m 72 0 (0 : Int32))) [] rfl (sm_on) ?_
    replace hf := sm_bd hf
    obtain ⟨r4, q3, hf⟩ := hf
    refine w_callV [.int x2] [] (tX12_isCorner x2 (sm_w1 m 72 0 (0 : Int32)) r4 q3) (cvX12_157 rfl) dX12_grass_15 rfl rfl (by decide) (by decide) rfl (Nat.le_of_ble_eq_true rfl) ?_
    show sm_W _ _ _ _ _ 18 [.ref 72, .int x1, .int x2] [.int r4] (sm_hp (sm_w1 m 72 0 (0 : Int32)))
    refine w_if_eq (tgt := 30) dX12_grass_18 rfl (fun hc => ?_) (fun hc => ?_)
    · replace hf := sm_ift hc hf
      refine w_blk bX12_grass_30 [.ref 72, .int x1, .int x2] [.int (-1 : Int32)] (sm_hp (sm_w1 m 72 0 (0 : Int32))) [] rfl (sm_on) ?_
      obtain rfl := Option.some.inj hf
      exact w_reti dX12_grass_31 rfl rfl
    · replace hf := sm_iff hc hf
      refine w_blk bX12_grass_21 [.ref 72, .int x1, .int x2] [.int x2, .int x1, .ref 72] (sm_hp (sm_w1 m 72 0 (0 : Int32))) [] rfl (sm_on) ?_
      replace hf := sm_bd hf
      obtain ⟨r6, q5, hf⟩ := hf
      refine w_callV [.int x1, .int x2] [] (tX12_grassOf x1 x2 (sm_w1 m 72 0 (0 : Int32)) r6 q5) (cvX12_160 rfl) dX12_grass_24 rfl rfl (by decide) (by decide) rfl (Nat.le_of_ble_eq_true rfl) ?_
      show sm_W _ _ _ _ _ 27 [.ref 72, .int x1, .int x2] [.int r6] (sm_hp (sm_w1 m 72 0 (0 : Int32)))
      refine w_goto (tgt := 31) dX12_grass_27 rfl ?_
      obtain rfl := Option.some.inj hf
      exact w_reti dX12_grass_31 rfl rfl
set_option maxRecDepth 10000 in
theorem tX12_set {l : Launch} {al : Bool} (x1 : Int32) (x2 : Int32) (x3 : Int32) (m : sm_S) (r : Int32 × sm_S) (hf : fX12_set x1 x2 x3 m = some r) : sm_Rt l mX12_set 3 0 0 al al [.ref 72, .int x1, .int x2, .int x3] (sm_hp m) (some (.int r.1), sm_hp r.2) := by
  refine sm_Rt.ofW (L := [.ref 72, .int x1, .int x2, .int x3, .retAddr 0, .retAddr 0]) (by decide) (Nat.le_of_ble_eq_true rfl) rfl ?_
  unfold fX12_set at hf
  refine w_blk bX12_set_0 [.ref 72, .int x1, .int x2, .int x3, .retAddr 0, .retAddr 0] [.long (1 : Int64), .long (0 : Int64), .long (x1).toInt64] (sm_hp (sm_w1 m 72 0 (0 : Int32))) [] rfl (sm_on) ?_
  replace hf := sm_bd hf
  obtain ⟨r2, q1, hf⟩ := hf
  refine w_callS [.long (x1).toInt64, .long (0 : Int64), .long (1 : Int64)] [] (tX12_in (x1).toInt64 (0 : Int64) (1 : Int64) (sm_w1 m 72 0 (0 : Int32)) r2 q1) (csX12_17 rfl) dX12_set_9 rfl rfl (by decide) (by decide) (Nat.le_of_ble_eq_true rfl) ?_
  show sm_W _ _ _ _ _ 12 [.ref 72, .int x1, .int x2, .int x3, .retAddr 0, .retAddr 0] [.int r2] (sm_hp (sm_w1 m 72 0 (0 : Int32)))
  refine w_if_eq (tgt := 66) dX12_set_12 rfl (fun hc => ?_) (fun hc => ?_)
  · replace hf := sm_ift hc hf
    refine w_blk bX12_set_66 [.ref 72, .int x1, .int x2, .int x3, .retAddr 0, .retAddr 0] [.int (2 : Int32), .int x1] (sm_hp (sm_w1 m 72 0 (0 : Int32))) [] rfl (sm_on) ?_
    refine w_icmp_ne (tgt := 97) dX12_set_68 rfl (fun hc => ?_) (fun hc => ?_)
    · replace hf := sm_iff hc hf
      refine w_blk bX12_set_97 [.ref 72, .int x1, .int x2, .int x3, .retAddr 0, .retAddr 0] [.int (3 : Int32), .int x1] (sm_hp (sm_w1 m 72 0 (0 : Int32))) [] rfl (sm_on) ?_
      refine w_icmp_ne (tgt := 128) dX12_set_99 rfl (fun hc => ?_) (fun hc => ?_)
      · replace hf := sm_iff hc hf
        refine w_blk bX12_set_128 [.ref 72, .int x1, .int x2, .int x3, .retAddr 0, .retAddr 0] [.int (-1 : Int32)] (sm_hp (sm_w1 m 72 0 (0 : Int32))) [] rfl (sm_on) ?_
        obtain rfl := Option.some.inj hf
        exact w_reti dX12_set_129 rfl rfl
      · replace hf := sm_ift hc hf
        refine w_blk bX12_set_102 [.ref 72, .int x1, .int x2, .int x3, .retAddr 0, .retAddr 0] [.long (9999 : Int64), .long (0 : Int64), .long (x3).toInt64] (sm_hp (sm_w1 m 72 0 (0 : Int32))) [] rfl (sm_on) ?_
        replace hf := sm_bd hf
        obtain ⟨r4, q3, hf⟩ := hf
        refine w_callS [.long (x3).toInt64, .long (0 : Int64), .long (9999 : Int64)] [] (tX12_in (x3).toInt64 (0 : Int64) (9999 : Int64) (sm_w1 m 72 0 (0 : Int32)) r4 q3) (csX12_17 rfl) dX12_set_108 rfl rfl (by decide) (by decide) (Nat.le_of_ble_eq_true rfl) ?_
        show sm_W _ _ _ _ _ 111 [.ref 72, .int x1, .int x2, .int x3, .retAddr 0, .retAddr 0] [.int r4] (sm_hp (sm_w1 m 72 0 (0 : Int32)))
        refine w_if_eq (tgt := 128) dX12_set_111 rfl (fun hc => ?_) (fun hc => ?_)
        · replace hf := sm_ift hc hf
          refine w_blk bX12_set_128 [.ref 72, .int x1, .int x2, .int x3, .retAddr 0, .retAddr 0] [.int (-1 : Int32)] (sm_hp (sm_w1 m 72 0 (0 : Int32))) [] rfl (sm_on) ?_
          obtain rfl := Option.some.inj hf
          exact w_reti dX12_set_129 rfl rfl
        · replace hf := sm_iff hc hf
          refine w_blk bX12_set_114 [.ref 72, .int x1, .int x2, .int x3, .int (m.1 72 16), .retAddr 0] [.int (m.1 72 16)] (sm_hp (sm_w1 (sm_w1 m 72 0 (0 : Int32)) 72 16 x3)) [] rfl (sm_on) ?_
          obtain rfl := Option.some.inj hf
          exact w_reti dX12_set_127 rfl rfl
    · replace hf := sm_ift hc hf
      refine w_blk bX12_set_71 [.ref 72, .int x1, .int x2, .int x3, .retAddr 0, .retAddr 0] [.long (99 : Int64), .long (0 : Int64), .long (x3).toInt64] (sm_hp (sm_w1 m 72 0 (0 : Int32))) [] rfl (sm_on) ?_
      replace hf := sm_bd hf
      obtain ⟨r6, q5, hf⟩ := hf
      refine w_callS [.long (x3).toInt64, .long (0 : Int64), .long (99 : Int64)] [] (tX12_in (x3).toInt64 (0 : Int64) (99 : Int64) (sm_w1 m 72 0 (0 : Int32)) r6 q5) (csX12_17 rfl) dX12_set_77 rfl rfl (by decide) (by decide) (Nat.le_of_ble_eq_true rfl) ?_
      show sm_W _ _ _ _ _ 80 [.ref 72, .int x1, .int x2, .int x3, .retAddr 0, .retAddr 0] [.int r6] (sm_hp (sm_w1 m 72 0 (0 : Int32)))
      refine w_if_eq (tgt := 97) dX12_set_80 rfl (fun hc => ?_) (fun hc => ?_)
      · replace hf := sm_ift hc hf
        refine w_blk bX12_set_97 [.ref 72, .int x1, .int x2, .int x3, .retAddr 0, .retAddr 0] [.int (3 : Int32), .int x1] (sm_hp (sm_w1 m 72 0 (0 : Int32))) [] rfl (sm_on) ?_
        refine w_icmp_ne (tgt := 128) dX12_set_99 rfl (fun hc => ?_) (fun hc => ?_)
        · replace hf := sm_iff hc hf
          refine w_blk bX12_set_128 [.ref 72, .int x1, .int x2, .int x3, .retAddr 0, .retAddr 0] [.int (-1 : Int32)] (sm_hp (sm_w1 m 72 0 (0 : Int32))) [] rfl (sm_on) ?_
          obtain rfl := Option.some.inj hf
          exact w_reti dX12_set_129 rfl rfl
        · replace hf := sm_ift hc hf
          refine w_blk bX12_set_102 [.ref 72, .int x1, .int x2, .int x3, .retAddr 0, .retAddr 0] [.long (9999 : Int64), .long (0 : Int64), .long (x3).toInt64] (sm_hp (sm_w1 m 72 0 (0 : Int32))) [] rfl (sm_on) ?_
          replace hf := sm_bd hf
          obtain ⟨r8, q7, hf⟩ := hf
          refine w_callS [.long (x3).toInt64, .long (0 : Int64), .long (9999 : Int64)] [] (tX12_in (x3).toInt64 (0 : Int64) (9999 : Int64) (sm_w1 m 72 0 (0 : Int32)) r8 q7) (csX12_17 rfl) dX12_set_108 rfl rfl (by decide) (by decide) (Nat.le_of_ble_eq_true rfl) ?_
          show sm_W _ _ _ _ _ 111 [.ref 72, .int x1, .int x2, .int x3, .retAddr 0, .retAddr 0] [.int r8] (sm_hp (sm_w1 m 72 0 (0 : Int32)))
          refine w_if_eq (tgt := 128) dX12_set_111 rfl (fun hc => ?_) (fun hc => ?_)
          · replace hf := sm_ift hc hf
            refine w_blk bX12_set_128 [.ref 72, .int x1, .int x2, .int x3, .retAddr 0, .retAddr 0] [.int (-1 : Int32)] (sm_hp (sm_w1 m 72 0 (0 : Int32))) [] rfl (sm_on) ?_
            obtain rfl := Option.some.inj hf
            exact w_reti dX12_set_129 rfl rfl
          · replace hf := sm_iff hc hf
            refine w_blk bX12_set_114 [.ref 72, .int x1, .int x2, .int x3, .int (m.1 72 16), .retAddr 0] [.int (m.1 72 16)] (sm_hp (sm_w1 (sm_w1 m 72 0 (0 : Int32)) 72 16 x3)) [] rfl (sm_on) ?_
            obtain rfl := Option.some.inj hf
            exact w_reti dX12_set_127 rfl rfl
      · replace hf := sm_iff hc hf
        refine w_blk bX12_set_83 [.ref 72, .int x1, .int x2, .int x3, .int (m.1 72 15), .retAddr 0] [.int (m.1 72 15)] (sm_hp (sm_w1 (sm_w1 m 72 0 (0 : Int32)) 72 15 x3)) [] rfl (sm_on) ?_
        obtain rfl := Option.some.inj hf
        exact w_reti dX12_set_96 rfl rfl
  · replace hf := sm_iff hc hf
    refine w_blk bX12_set_15 [.ref 72, .int x1, .int x2, .int x3, .retAddr 0, .retAddr 0] [.int x2, .ref 72] (sm_hp (sm_w1 m 72 0 (0 : Int32))) [] rfl (sm_on) ?_
    replace hf := sm_bd hf
    obtain ⟨r10, q9, hf⟩ := hf
    refine w_callV [.int x2] [] (tX12_isHedge x2 (sm_w1 m 72 0 (0 : Int32)) r10 q9) (cvX12_135 rfl) dX12_set_17 rfl rfl (by decide) (by decide) rfl (Nat.le_of_ble_eq_true rfl) ?_
    show sm_W _ _ _ _ _ 20 [.ref 72, .int x1, .int x2, .int x3, .retAddr 0, .retAddr 0] [.int r10] (sm_hp (sm_w1 m 72 0 (0 : Int32)))
    refine w_if_eq (tgt := 66) dX12_set_20 rfl (fun hc => ?_) (fun hc => ?_)
    · replace hf := sm_ift hc hf
      refine w_blk bX12_set_66 [.ref 72, .int x1, .int x2, .int x3, .retAddr 0, .retAddr 0] [.int (2 : Int32), .int x1] (sm_hp (sm_w1 m 72 0 (0 : Int32))) [] rfl (sm_on) ?_
      refine w_icmp_ne (tgt := 97) dX12_set_68 rfl (fun hc => ?_) (fun hc => ?_)
      · replace hf := sm_iff hc hf
        refine w_blk bX12_set_97 [.ref 72, .int x1, .int x2, .int x3, .retAddr 0, .retAddr 0] [.int (3 : Int32), .int x1] (sm_hp (sm_w1 m 72 0 (0 : Int32))) [] rfl (sm_on) ?_
        refine w_icmp_ne (tgt := 128) dX12_set_99 rfl (fun hc => ?_) (fun hc => ?_)
        · replace hf := sm_iff hc hf
          refine w_blk bX12_set_128 [.ref 72, .int x1, .int x2, .int x3, .retAddr 0, .retAddr 0] [.int (-1 : Int32)] (sm_hp (sm_w1 m 72 0 (0 : Int32))) [] rfl (sm_on) ?_
          obtain rfl := Option.some.inj hf
          exact w_reti dX12_set_129 rfl rfl
        · replace hf := sm_ift hc hf
          refine w_blk bX12_set_102 [.ref 72, .int x1, .int x2, .int x3, .retAddr 0, .retAddr 0] [.long (9999 : Int64), .long (0 : Int64), .long (x3).toInt64] (sm_hp (sm_w1 m 72 0 (0 : Int32))) [] rfl (sm_on) ?_
          replace hf := sm_bd hf
          obtain ⟨r12, q11, hf⟩ := hf
          refine w_callS [.long (x3).toInt64, .long (0 : Int64), .long (9999 : Int64)] [] (tX12_in (x3).toInt64 (0 : Int64) (9999 : Int64) (sm_w1 m 72 0 (0 : Int32)) r12 q11) (csX12_17 rfl) dX12_set_108 rfl rfl (by decide) (by decide) (Nat.le_of_ble_eq_true rfl) ?_
          show sm_W _ _ _ _ _ 111 [.ref 72, .int x1, .int x2, .int x3, .retAddr 0, .retAddr 0] [.int r12] (sm_hp (sm_w1 m 72 0 (0 : Int32)))
          refine w_if_eq (tgt := 128) dX12_set_111 rfl (fun hc => ?_) (fun hc => ?_)
          · replace hf := sm_ift hc hf
            refine w_blk bX12_set_128 [.ref 72, .int x1, .int x2, .int x3, .retAddr 0, .retAddr 0] [.int (-1 : Int32)] (sm_hp (sm_w1 m 72 0 (0 : Int32))) [] rfl (sm_on) ?_
            obtain rfl := Option.some.inj hf
            exact w_reti dX12_set_129 rfl rfl
          · replace hf := sm_iff hc hf
            refine w_blk bX12_set_114 [.ref 72, .int x1, .int x2, .int x3, .int (m.1 72 16), .retAddr 0] [.int (m.1 72 16)] (sm_hp (sm_w1 (sm_w1 m 72 0 (0 : Int32)) 72 16 x3)) [] rfl (sm_on) ?_
            obtain rfl := Option.some.inj hf
            exact w_reti dX12_set_127 rfl rfl
      · replace hf := sm_ift hc hf
        refine w_blk bX12_set_71 [.ref 72, .int x1, .int x2, .int x3, .retAddr 0, .retAddr 0] [.long (99 : Int64), .long (0 : Int64), .long (x3).toInt64] (sm_hp (sm_w1 m 72 0 (0 : Int32))) [] rfl (sm_on) ?_
        replace hf := sm_bd hf
        obtain ⟨r14, q13, hf⟩ := hf
        refine w_callS [.long (x3).toInt64, .long (0 : Int64), .long (99 : Int64)] [] (tX12_in (x3).toInt64 (0 : Int64) (99 : Int64) (sm_w1 m 72 0 (0 : Int32)) r14 q13) (csX12_17 rfl) dX12_set_77 rfl rfl (by decide) (by decide) (Nat.le_of_ble_eq_true rfl) ?_
        show sm_W _ _ _ _ _ 80 [.ref 72, .int x1, .int x2, .int x3, .retAddr 0, .retAddr 0] [.int r14] (sm_hp (sm_w1 m 72 0 (0 : Int32)))
        refine w_if_eq (tgt := 97) dX12_set_80 rfl (fun hc => ?_) (fun hc => ?_)
        · replace hf := sm_ift hc hf
          refine w_blk bX12_set_97 [.ref 72, .int x1, .int x2, .int x3, .retAddr 0, .retAddr 0] [.int (3 : Int32), .int x1] (sm_hp (sm_w1 m 72 0 (0 : Int32))) [] rfl (sm_on) ?_
          refine w_icmp_ne (tgt := 128) dX12_set_99 rfl (fun hc => ?_) (fun hc => ?_)
          · replace hf := sm_iff hc hf
            refine w_blk bX12_set_128 [.ref 72, .int x1, .int x2, .int x3, .retAddr 0, .retAddr 0] [.int (-1 : Int32)] (sm_hp (sm_w1 m 72 0 (0 : Int32))) [] rfl (sm_on) ?_
            obtain rfl := Option.some.inj hf
            exact w_reti dX12_set_129 rfl rfl
          · replace hf := sm_ift hc hf
            refine w_blk bX12_set_102 [.ref 72, .int x1, .int x2, .int x3, .retAddr 0, .retAddr 0] [.long (9999 : Int64), .long (0 : Int64), .long (x3).toInt64] (sm_hp (sm_w1 m 72 0 (0 : Int32))) [] rfl (sm_on) ?_
            replace hf := sm_bd hf
            obtain ⟨r16, q15, hf⟩ := hf
            refine w_callS [.long (x3).toInt64, .long (0 : Int64), .long (9999 : Int64)] [] (tX12_in (x3).toInt64 (0 : Int64) (9999 : Int64) (sm_w1 m 72 0 (0 : Int32)) r16 q15) (csX12_17 rfl) dX12_set_108 rfl rfl (by decide) (by decide) (Nat.le_of_ble_eq_true rfl) ?_
            show sm_W _ _ _ _ _ 111 [.ref 72, .int x1, .int x2, .int x3, .retAddr 0, .retAddr 0] [.int r16] (sm_hp (sm_w1 m 72 0 (0 : Int32)))
            refine w_if_eq (tgt := 128) dX12_set_111 rfl (fun hc => ?_) (fun hc => ?_)
            · replace hf := sm_ift hc hf
              refine w_blk bX12_set_128 [.ref 72, .int x1, .int x2, .int x3, .retAddr 0, .retAddr 0] [.int (-1 : Int32)] (sm_hp (sm_w1 m 72 0 (0 : Int32))) [] rfl (sm_on) ?_
              obtain rfl := Option.some.inj hf
              exact w_reti dX12_set_129 rfl rfl
            · replace hf := sm_iff hc hf
              refine w_blk bX12_set_114 [.ref 72, .int x1, .int x2, .int x3, .int (m.1 72 16), .retAddr 0] [.int (m.1 72 16)] (sm_hp (sm_w1 (sm_w1 m 72 0 (0 : Int32)) 72 16 x3)) [] rfl (sm_on) ?_
              obtain rfl := Option.some.inj hf
              exact w_reti dX12_set_127 rfl rfl
        · replace hf := sm_iff hc hf
          refine w_blk bX12_set_83 [.ref 72, .int x1, .int x2, .int x3, .int (m.1 72 15), .retAddr 0] [.int (m.1 72 15)] (sm_hp (sm_w1 (sm_w1 m 72 0 (0 : Int32)) 72 15 x3)) [] rfl (sm_on) ?_
          obtain rfl := Option.some.inj hf
          exact w_reti dX12_set_96 rfl rfl
    · replace hf := sm_iff hc hf
      refine w_blk bX12_set_23 [.ref 72, .int x1, .int x2, .int x3, .retAddr 0, .retAddr 0] [.long (9 : Int64), .long (0 : Int64), .long (x3).toInt64] (sm_hp (sm_w1 m 72 0 (0 : Int32))) [] rfl (sm_on) ?_
      replace hf := sm_bd hf
      obtain ⟨r18, q17, hf⟩ := hf
      refine w_callS [.long (x3).toInt64, .long (0 : Int64), .long (9 : Int64)] [] (tX12_in (x3).toInt64 (0 : Int64) (9 : Int64) (sm_w1 m 72 0 (0 : Int32)) r18 q17) (csX12_17 rfl) dX12_set_29 rfl rfl (by decide) (by decide) (Nat.le_of_ble_eq_true rfl) ?_
      show sm_W _ _ _ _ _ 32 [.ref 72, .int x1, .int x2, .int x3, .retAddr 0, .retAddr 0] [.int r18] (sm_hp (sm_w1 m 72 0 (0 : Int32)))
      refine w_if_eq (tgt := 66) dX12_set_32 rfl (fun hc => ?_) (fun hc => ?_)
      · replace hf := sm_ift hc hf
        refine w_blk bX12_set_66 [.ref 72, .int x1, .int x2, .int x3, .retAddr 0, .retAddr 0] [.int (2 : Int32), .int x1] (sm_hp (sm_w1 m 72 0 (0 : Int32))) [] rfl (sm_on) ?_
        refine w_icmp_ne (tgt := 97) dX12_set_68 rfl (fun hc => ?_) (fun hc => ?_)
        · replace hf := sm_iff hc hf
          refine w_blk bX12_set_97 [.ref 72, .int x1, .int x2, .int x3, .retAddr 0, .retAddr 0] [.int (3 : Int32), .int x1] (sm_hp (sm_w1 m 72 0 (0 : Int32))) [] rfl (sm_on) ?_
          refine w_icmp_ne (tgt := 128) dX12_set_99 rfl (fun hc => ?_) (fun hc => ?_)
          · replace hf := sm_iff hc hf
            refine w_blk bX12_set_128 [.ref 72, .int x1, .int x2, .int x3, .retAddr 0, .retAddr 0] [.int (-1 : Int32)] (sm_hp (sm_w1 m 72 0 (0 : Int32))) [] rfl (sm_on) ?_
            obtain rfl := Option.some.inj hf
            exact w_reti dX12_set_129 rfl rfl
          · replace hf := sm_ift hc hf
            refine w_blk bX12_set_102 [.ref 72, .int x1, .int x2, .int x3, .retAddr 0, .retAddr 0] [.long (9999 : Int64), .long (0 : Int64), .long (x3).toInt64] (sm_hp (sm_w1 m 72 0 (0 : Int32))) [] rfl (sm_on) ?_
            replace hf := sm_bd hf
            obtain ⟨r20, q19, hf⟩ := hf
            refine w_callS [.long (x3).toInt64, .long (0 : Int64), .long (9999 : Int64)] [] (tX12_in (x3).toInt64 (0 : Int64) (9999 : Int64) (sm_w1 m 72 0 (0 : Int32)) r20 q19) (csX12_17 rfl) dX12_set_108 rfl rfl (by decide) (by decide) (Nat.le_of_ble_eq_true rfl) ?_
            show sm_W _ _ _ _ _ 111 [.ref 72, .int x1, .int x2, .int x3, .retAddr 0, .retAddr 0] [.int r20] (sm_hp (sm_w1 m 72 0 (0 : Int32)))
            refine w_if_eq (tgt := 128) dX12_set_111 rfl (fun hc => ?_) (fun hc => ?_)
            · replace hf := sm_ift hc hf
              refine w_blk bX12_set_128 [.ref 72, .int x1, .int x2, .int x3, .retAddr 0, .retAddr 0] [.int (-1 : Int32)] (sm_hp (sm_w1 m 72 0 (0 : Int32))) [] rfl (sm_on) ?_
              obtain rfl := Option.some.inj hf
              exact w_reti dX12_set_129 rfl rfl
            · replace hf := sm_iff hc hf
              refine w_blk bX12_set_114 [.ref 72, .int x1, .int x2, .int x3, .int (m.1 72 16), .retAddr 0] [.int (m.1 72 16)] (sm_hp (sm_w1 (sm_w1 m 72 0 (0 : Int32)) 72 16 x3)) [] rfl (sm_on) ?_
              obtain rfl := Option.some.inj hf
              exact w_reti dX12_set_127 rfl rfl
        · replace hf := sm_ift hc hf
          refine w_blk bX12_set_71 [.ref 72, .int x1, .int x2, .int x3, .retAddr 0, .retAddr 0] [.long (99 : Int64), .long (0 : Int64), .long (x3).toInt64] (sm_hp (sm_w1 m 72 0 (0 : Int32))) [] rfl (sm_on) ?_
          replace hf := sm_bd hf
          obtain ⟨r22, q21, hf⟩ := hf
          refine w_callS [.long (x3).toInt64, .long (0 : Int64), .long (99 : Int64)] [] (tX12_in (x3).toInt64 (0 : Int64) (99 : Int64) (sm_w1 m 72 0 (0 : Int32)) r22 q21) (csX12_17 rfl) dX12_set_77 rfl rfl (by decide) (by decide) (Nat.le_of_ble_eq_true rfl) ?_
          show sm_W _ _ _ _ _ 80 [.ref 72, .int x1, .int x2, .int x3, .retAddr 0, .retAddr 0] [.int r22] (sm_hp (sm_w1 m 72 0 (0 : Int32)))
          refine w_if_eq (tgt := 97) dX12_set_80 rfl (fun hc => ?_) (fun hc => ?_)
          · replace hf := sm_ift hc hf
            refine w_blk bX12_set_97 [.ref 72, .int x1, .int x2, .int x3, .retAddr 0, .retAddr 0] [.int (3 : Int32), .int x1] (sm_hp (sm_w1 m 72 0 (0 : Int32))) [] rfl (sm_on) ?_
            refine w_icmp_ne (tgt := 128) dX12_set_99 rfl (fun hc => ?_) (fun hc => ?_)
            · replace hf := sm_iff hc hf
              refine w_blk bX12_set_128 [.ref 72, .int x1, .int x2, .int x3, .retAddr 0, .retAddr 0] [.int (-1 : Int32)] (sm_hp (sm_w1 m 72 0 (0 : Int32))) [] rfl (sm_on) ?_
              obtain rfl := Option.some.inj hf
              exact w_reti dX12_set_129 rfl rfl
            · replace hf := sm_ift hc hf
              refine w_blk bX12_set_102 [.ref 72, .int x1, .int x2, .int x3, .retAddr 0, .retAddr 0] [.long (9999 : Int64), .long (0 : Int64), .long (x3).toInt64] (sm_hp (sm_w1 m 72 0 (0 : Int32))) [] rfl (sm_on) ?_
              replace hf := sm_bd hf
              obtain ⟨r24, q23, hf⟩ := hf
              refine w_callS [.long (x3).toInt64, .long (0 : Int64), .long (9999 : Int64)] [] (tX12_in (x3).toInt64 (0 : Int64) (9999 : Int64) (sm_w1 m 72 0 (0 : Int32)) r24 q23) (csX12_17 rfl) dX12_set_108 rfl rfl (by decide) (by decide) (Nat.le_of_ble_eq_true rfl) ?_
              show sm_W _ _ _ _ _ 111 [.ref 72, .int x1, .int x2, .int x3, .retAddr 0, .retAddr 0] [.int r24] (sm_hp (sm_w1 m 72 0 (0 : Int32)))
              refine w_if_eq (tgt := 128) dX12_set_111 rfl (fun hc => ?_) (fun hc => ?_)
              · replace hf := sm_ift hc hf
                refine w_blk bX12_set_128 [.ref 72, .int x1, .int x2, .int x3, .retAddr 0, .retAddr 0] [.int (-1 : Int32)] (sm_hp (sm_w1 m 72 0 (0 : Int32))) [] rfl (sm_on) ?_
                obtain rfl := Option.some.inj hf
                exact w_reti dX12_set_129 rfl rfl
              · replace hf := sm_iff hc hf
                refine w_blk bX12_set_114 [.ref 72, .int x1, .int x2, .int x3, .int (m.1 72 16), .retAddr 0] [.int (m.1 72 16)] (sm_hp (sm_w1 (sm_w1 m 72 0 (0 : Int32)) 72 16 x3)) [] rfl (sm_on) ?_
                obtain rfl := Option.some.inj hf
                exact w_reti dX12_set_127 rfl rfl
          · replace hf := sm_iff hc hf
            refine w_blk bX12_set_83 [.ref 72, .int x1, .int x2, .int x3, .int (m.1 72 15), .retAddr 0] [.int (m.1 72 15)] (sm_hp (sm_w1 (sm_w1 m 72 0 (0 : Int32)) 72 15 x3)) [] rfl (sm_on) ?_
            obtain rfl := Option.some.inj hf
            exact w_reti dX12_set_96 rfl rfl
      · replace hf := sm_iff hc hf
        refine w_blk bX12_set_35 [.ref 72, .int x1, .int x2, .int x3, .retAddr 0, .retAddr 0] [.int x1] (sm_hp (sm_w1 m 72 0 (0 : Int32))) [] rfl (sm_on) ?_
        refine w_if_ne (tgt := 46) dX12_set_36 rfl (fun hc => ?_) (fun hc => ?_)
        · replace hf := sm_iff hc hf
          refine w_blk bX12_set_46 [.ref 72, .int x1, .int x2, .int x3, .retAddr 0, .retAddr 0] [.ref 82] (sm_hp (sm_w1 m 72 0 (0 : Int32))) [] rfl (sm_on) ?_
          replace hf := sm_ck hf
          obtain ⟨q25, hf⟩ := hf
          replace hf := sm_ck hf
          obtain ⟨q26, hf⟩ := hf
          refine w_blk bX12_set_50 [.ref 72, .int x1, .int x2, .int x3, .ref 82, .int (m.1 82 (x2).toNatClampNeg)] [.int (m.1 82 (x2).toNatClampNeg)] (sm_hp (sm_w1 (sm_w1 m 72 0 (0 : Int32)) 82 (x2).toNatClampNeg x3)) [(x2, 14), (x2, 14)] rfl (sm_oc q25 (sm_oc q26 (sm_on))) ?_
          obtain rfl := Option.some.inj hf
          exact w_reti dX12_set_65 rfl rfl
        · replace hf := sm_ift hc hf
          refine w_blk bX12_set_39 [.ref 72, .int x1, .int x2, .int x3, .retAddr 0, .retAddr 0] [.ref 81] (sm_hp (sm_w1 m 72 0 (0 : Int32))) [] rfl (sm_on) ?_
          refine w_goto (tgt := 50) dX12_set_43 rfl ?_
          replace hf := sm_ck hf
          obtain ⟨q27, hf⟩ := hf
          replace hf := sm_ck hf
          obtain ⟨q28, hf⟩ := hf
          refine w_blk bX12_set_50 [.ref 72, .int x1, .int x2, .int x3, .ref 81, .int (m.1 81 (x2).toNatClampNeg)] [.int (m.1 81 (x2).toNatClampNeg)] (sm_hp (sm_w1 (sm_w1 m 72 0 (0 : Int32)) 81 (x2).toNatClampNeg x3)) [(x2, 14), (x2, 14)] rfl (sm_oc q27 (sm_oc q28 (sm_on))) ?_
          obtain rfl := Option.some.inj hf
          exact w_reti dX12_set_65 rfl rfl
set_option maxRecDepth 10000 in
theorem tX12_sheet_46 {l : Launch} {al : Bool} : ∀ (n : Nat) (v1 : Int32) (v2 : Int32) (v4 : Int32) (v5 : Int32) (v6 : Int32) (v7 : Int32) (m : sm_S) (r : Int32 × sm_S), fX12_sheet_46 n v1 v2 v4 v5 v6 v7 m = some r → sm_W l mX12_sheet 2 al (some (.int r.1), sm_hp r.2) 46 [.ref 72, .int v1, .int v2, .retAddr 0, .int v4, .int v5, .int v6, .int v7, .retAddr 0] [] (sm_hp m) := by
  intro n
  induction n with
  | zero =>
    intro v1 v2 v4 v5 v6 v7 m r hf
    unfold fX12_sheet_46 at hf
    cases hf
  | succ n ih =>
    intro v1 v2 v4 v5 v6 v7 m r hf
    unfold fX12_sheet_46 at hf
    refine w_blk bX12_sheet_46 [.ref 72, .int v1, .int v2, .retAddr 0, .int v4, .int v5, .int v6, .int v7, .retAddr 0] [.int (m.1 72 6), .int v7] (sm_hp m) [] rfl (sm_on) ?_
    refine w_icmp_ge (tgt := 138) dX12_sheet_52 rfl (fun hc => ?_) (fun hc => ?_)
    · replace hf := sm_ift hc hf
      refine w_blk bX12_sheet_138 [.ref 72, .int v1, .int v2, .retAddr 0, .int v4, .int v5, .int v6, .int v7, .retAddr 0] [.int (3 : Int32), .int v1] (sm_hp m) [] rfl (sm_on) ?_
      refine w_icmp_ne (tgt := 148) dX12_sheet_140 rfl (fun hc => ?_) (fun hc => ?_)
      · replace hf := sm_iff hc hf
        refine w_blk bX12_sheet_148 [.ref 72, .int v1, .int v2, .retAddr 0, .int v4, .int v5, .int v6, .int v7, .retAddr 0] [.int v5] (sm_hp m) [] rfl (sm_on) ?_
        obtain rfl := Option.some.inj hf
        exact w_reti dX12_sheet_150 rfl rfl
      · replace hf := sm_ift hc hf
        refine w_blk bX12_sheet_143 [.ref 72, .int v1, .int v2, .retAddr 0, .int v4, .int v5, .int v6, .int v7, .retAddr 0] [.int (-3 : Int32)] (sm_hp m) [] rfl (sm_on) ?_
        refine w_goto (tgt := 150) dX12_sheet_145 rfl ?_
        obtain rfl := Option.some.inj hf
        exact w_reti dX12_sheet_150 rfl rfl
    · replace hf := sm_iff hc hf
      refine w_blk bX12_sheet_55 [.ref 72, .int v1, .int v2, .retAddr 0, .int v4, .int v5, .int v6, .int v7, .retAddr 0] [.int v1] (sm_hp m) [] rfl (sm_on) ?_
      refine w_if_ne (tgt := 65) dX12_sheet_56 rfl (fun hc => ?_) (fun hc => ?_)
      · replace hf := sm_iff hc hf
        refine w_blk bX12_sheet_65 [.ref 72, .int v1, .int v2, .retAddr 0, .int v4, .int v5, .int v6, .int v7, .retAddr 0] [.int (1 : Int32), .int v1] (sm_hp m) [] rfl (sm_on) ?_
        refine w_icmp_ne (tgt := 76) dX12_sheet_67 rfl (fun hc => ?_) (fun hc => ?_)
        · replace hf := sm_iff hc hf
          refine w_blk bX12_sheet_76 [.ref 72, .int v1, .int v2, .retAddr 0, .int v4, .int v5, .int v6, .int v7, .retAddr 0] [.int v6] (sm_hp m) [] rfl (sm_on) ?_
          refine w_blk bX12_sheet_78 [.ref 72, .int v1, .int v2, .retAddr 0, .int v4, .int v5, .int v6, .int v7, .int v6] [.int (3 : Int32), .int v1, .int v7, .ref 78] (sm_hp m) [] rfl (sm_on) ?_
          refine w_icmp_eq (tgt := 97) dX12_sheet_88 rfl (fun hc => ?_) (fun hc => ?_)
          · replace hf := sm_ift hc hf
            refine w_blk bX12_sheet_97 [.ref 72, .int v1, .int v2, .retAddr 0, .int v4, .int v5, .int v6, .int v7, .int v6] [.int (1 : Int32), .int v7, .ref 78] (sm_hp m) [] rfl (sm_on) ?_
            refine w_goto (tgt := 112) dX12_sheet_98 rfl ?_
            replace hf := sm_ck hf
            obtain ⟨q3, hf⟩ := hf
            replace hf := sm_ck hf
            obtain ⟨q4, hf⟩ := hf
            refine w_blk bX12_sheet_112 [.ref 72, .int v1, .int v2, .retAddr 0, .int v4, .int (v5 + ((sm_w1 m 78 (v7).toNatClampNeg (1 : Int32)).1 78 (v7).toNatClampNeg)), .int (v6 + v4), .int (v7 + (1 : Int32)), .int v6] [] (sm_hp (sm_w1 m 78 (v7).toNatClampNeg (1 : Int32))) [(v7, 14), (v7, 14)] rfl (sm_oc q3 (sm_oc q4 (sm_on))) ?_
            refine w_goto (tgt := 46) dX12_sheet_135 rfl ?_
            refine w_wk [true, true, true, false, true, true, true, true, false] ?_
            exact ih v1 v2 v4 (v5 + ((sm_w1 m 78 (v7).toNatClampNeg (1 : Int32)).1 78 (v7).toNatClampNeg)) (v6 + v4) (v7 + (1 : Int32)) (sm_w1 m 78 (v7).toNatClampNeg (1 : Int32)) r hf
          · replace hf := sm_iff hc hf
            refine w_blk bX12_sheet_91 [.ref 72, .int v1, .int v2, .retAddr 0, .int v4, .int v5, .int v6, .int v7, .int v6] [.int v2, .int v7, .int v7, .ref 78] (sm_hp m) [] rfl (sm_on) ?_
            refine w_icmp_lt (tgt := 101) dX12_sheet_94 rfl (fun hc => ?_) (fun hc => ?_)
            · replace hf := sm_ift hc hf
              refine w_blk bX12_sheet_101 [.ref 72, .int v1, .int v2, .retAddr 0, .int v4, .int v5, .int v6, .int v7, .int v6] [.int (if (1 : Int32) < (if v6 < (20 : Int32) then v6 else (20 : Int32)) then (if v6 < (20 : Int32) then v6 else (20 : Int32)) else (1 : Int32)), .int v7, .ref 78] (sm_hp m) [] rfl (sm_on) ?_
              replace hf := sm_ck hf
              obtain ⟨q5, hf⟩ := hf
              replace hf := sm_ck hf
              obtain ⟨q6, hf⟩ := hf
              refine w_blk bX12_sheet_112 [.ref 72, .int v1, .int v2, .retAddr 0, .int v4, .int (v5 + ((sm_w1 m 78 (v7).toNatClampNeg (if (1 : Int32) < (if v6 < (20 : Int32) then v6 else (20 : Int32)) then (if v6 < (20 : Int32) then v6 else (20 : Int32)) else (1 : Int32))).1 78 (v7).toNatClampNeg)), .int (v6 + v4), .int (v7 + (1 : Int32)), .int v6] [] (sm_hp (sm_w1 m 78 (v7).toNatClampNeg (if (1 : Int32) < (if v6 < (20 : Int32) then v6 else (20 : Int32)) then (if v6 < (20 : Int32) then v6 else (20 : Int32)) else (1 : Int32)))) [(v7, 14), (v7, 14)] rfl (sm_oc q5 (sm_oc q6 (sm_on))) ?_
              refine w_goto (tgt := 46) dX12_sheet_135 rfl ?_
              refine w_wk [true, true, true, false, true, true, true, true, false] ?_
              exact ih v1 v2 v4 (v5 + ((sm_w1 m 78 (v7).toNatClampNeg (if (1 : Int32) < (if v6 < (20 : Int32) then v6 else (20 : Int32)) then (if v6 < (20 : Int32) then v6 else (20 : Int32)) else (1 : Int32))).1 78 (v7).toNatClampNeg)) (v6 + v4) (v7 + (1 : Int32)) (sm_w1 m 78 (v7).toNatClampNeg (if (1 : Int32) < (if v6 < (20 : Int32) then v6 else (20 : Int32)) then (if v6 < (20 : Int32) then v6 else (20 : Int32)) else (1 : Int32))) r hf
            · replace hf := sm_iff hc hf
              refine w_blk bX12_sheet_97 [.ref 72, .int v1, .int v2, .retAddr 0, .int v4, .int v5, .int v6, .int v7, .int v6] [.int (1 : Int32), .int v7, .ref 78] (sm_hp m) [] rfl (sm_on) ?_
              refine w_goto (tgt := 112) dX12_sheet_98 rfl ?_
              replace hf := sm_ck hf
              obtain ⟨q7, hf⟩ := hf
              replace hf := sm_ck hf
              obtain ⟨q8, hf⟩ := hf
              refine w_blk bX12_sheet_112 [.ref 72, .int v1, .int v2, .retAddr 0, .int v4, .int (v5 + ((sm_w1 m 78 (v7).toNatClampNeg (1 : Int32)).1 78 (v7).toNatClampNeg)), .int (v6 + v4), .int (v7 + (1 : Int32)), .int v6] [] (sm_hp (sm_w1 m 78 (v7).toNatClampNeg (1 : Int32))) [(v7, 14), (v7, 14)] rfl (sm_oc q7 (sm_oc q8 (sm_on))) ?_
              refine w_goto (tgt := 46) dX12_sheet_135 rfl ?_
              refine w_wk [true, true, true, false, true, true, true, true, false] ?_
              exact ih v1 v2 v4 (v5 + ((sm_w1 m 78 (v7).toNatClampNeg (1 : Int32)).1 78 (v7).toNatClampNeg)) (v6 + v4) (v7 + (1 : Int32)) (sm_w1 m 78 (v7).toNatClampNeg (1 : Int32)) r hf
        · replace hf := sm_ift hc hf
          refine w_blk bX12_sheet_70 [.ref 72, .int v1, .int v2, .retAddr 0, .int v4, .int v5, .int v6, .int v7, .retAddr 0] [.int (v6).toInt16.toInt32] (sm_hp m) [] rfl (sm_on) ?_
          refine w_goto (tgt := 78) dX12_sheet_73 rfl ?_
          refine w_blk bX12_sheet_78 [.ref 72, .int v1, .int v2, .retAddr 0, .int v4, .int v5, .int v6, .int v7, .int (v6).toInt16.toInt32] [.int (3 : Int32), .int v1, .int v7, .ref 78] (sm_hp m) [] rfl (sm_on) ?_
          refine w_icmp_eq (tgt := 97) dX12_sheet_88 rfl (fun hc => ?_) (fun hc => ?_)
          · replace hf := sm_ift hc hf
            refine w_blk bX12_sheet_97 [.ref 72, .int v1, .int v2, .retAddr 0, .int v4, .int v5, .int v6, .int v7, .int (v6).toInt16.toInt32] [.int (1 : Int32), .int v7, .ref 78] (sm_hp m) [] rfl (sm_on) ?_
            refine w_goto (tgt := 112) dX12_sheet_98 rfl ?_
            replace hf := sm_ck hf
            obtain ⟨q9, hf⟩ := hf
            replace hf := sm_ck hf
            obtain ⟨q10, hf⟩ := hf
            refine w_blk bX12_sheet_112 [.ref 72, .int v1, .int v2, .retAddr 0, .int v4, .int (v5 + ((sm_w1 m 78 (v7).toNatClampNeg (1 : Int32)).1 78 (v7).toNatClampNeg)), .int (v6 + v4), .int (v7 + (1 : Int32)), .int (v6).toInt16.toInt32] [] (sm_hp (sm_w1 m 78 (v7).toNatClampNeg (1 : Int32))) [(v7, 14), (v7, 14)] rfl (sm_oc q9 (sm_oc q10 (sm_on))) ?_
            refine w_goto (tgt := 46) dX12_sheet_135 rfl ?_
            refine w_wk [true, true, true, false, true, true, true, true, false] ?_
            exact ih v1 v2 v4 (v5 + ((sm_w1 m 78 (v7).toNatClampNeg (1 : Int32)).1 78 (v7).toNatClampNeg)) (v6 + v4) (v7 + (1 : Int32)) (sm_w1 m 78 (v7).toNatClampNeg (1 : Int32)) r hf
          · replace hf := sm_iff hc hf
            refine w_blk bX12_sheet_91 [.ref 72, .int v1, .int v2, .retAddr 0, .int v4, .int v5, .int v6, .int v7, .int (v6).toInt16.toInt32] [.int v2, .int v7, .int v7, .ref 78] (sm_hp m) [] rfl (sm_on) ?_
            refine w_icmp_lt (tgt := 101) dX12_sheet_94 rfl (fun hc => ?_) (fun hc => ?_)
            · replace hf := sm_ift hc hf
              refine w_blk bX12_sheet_101 [.ref 72, .int v1, .int v2, .retAddr 0, .int v4, .int v5, .int v6, .int v7, .int (v6).toInt16.toInt32] [.int (if (1 : Int32) < (if (v6).toInt16.toInt32 < (20 : Int32) then (v6).toInt16.toInt32 else (20 : Int32)) then (if (v6).toInt16.toInt32 < (20 : Int32) then (v6).toInt16.toInt32 else (20 : Int32)) else (1 : Int32)), .int v7, .ref 78] (sm_hp m) [] rfl (sm_on) ?_
              replace hf := sm_ck hf
              obtain ⟨q11, hf⟩ := hf
              replace hf := sm_ck hf
              obtain ⟨q12, hf⟩ := hf
              refine w_blk bX12_sheet_112 [.ref 72, .int v1, .int v2, .retAddr 0, .int v4, .int (v5 + ((sm_w1 m 78 (v7).toNatClampNeg (if (1 : Int32) < (if (v6).toInt16.toInt32 < (20 : Int32) then (v6).toInt16.toInt32 else (20 : Int32)) then (if (v6).toInt16.toInt32 < (20 : Int32) then (v6).toInt16.toInt32 else (20 : Int32)) else (1 : Int32))).1 78 (v7).toNatClampNeg)), .int (v6 + v4), .int (v7 + (1 : Int32)), .int (v6).toInt16.toInt32] [] (sm_hp (sm_w1 m 78 (v7).toNatClampNeg (if (1 : Int32) < (if (v6).toInt16.toInt32 < (20 : Int32) then (v6).toInt16.toInt32 else (20 : Int32)) then (if (v6).toInt16.toInt32 < (20 : Int32) then (v6).toInt16.toInt32 else (20 : Int32)) else (1 : Int32)))) [(v7, 14), (v7, 14)] rfl (sm_oc q11 (sm_oc q12 (sm_on))) ?_
              refine w_goto (tgt := 46) dX12_sheet_135 rfl ?_
              refine w_wk [true, true, true, false, true, true, true, true, false] ?_
              exact ih v1 v2 v4 (v5 + ((sm_w1 m 78 (v7).toNatClampNeg (if (1 : Int32) < (if (v6).toInt16.toInt32 < (20 : Int32) then (v6).toInt16.toInt32 else (20 : Int32)) then (if (v6).toInt16.toInt32 < (20 : Int32) then (v6).toInt16.toInt32 else (20 : Int32)) else (1 : Int32))).1 78 (v7).toNatClampNeg)) (v6 + v4) (v7 + (1 : Int32)) (sm_w1 m 78 (v7).toNatClampNeg (if (1 : Int32) < (if (v6).toInt16.toInt32 < (20 : Int32) then (v6).toInt16.toInt32 else (20 : Int32)) then (if (v6).toInt16.toInt32 < (20 : Int32) then (v6).toInt16.toInt32 else (20 : Int32)) else (1 : Int32))) r hf
            · replace hf := sm_iff hc hf
              refine w_blk bX12_sheet_97 [.ref 72, .int v1, .int v2, .retAddr 0, .int v4, .int v5, .int v6, .int v7, .int (v6).toInt16.toInt32] [.int (1 : Int32), .int v7, .ref 78] (sm_hp m) [] rfl (sm_on) ?_
              refine w_goto (tgt := 112) dX12_sheet_98 rfl ?_
              replace hf := sm_ck hf
              obtain ⟨q13, hf⟩ := hf
              replace hf := sm_ck hf
              obtain ⟨q14, hf⟩ := hf
              refine w_blk bX12_sheet_112 [.ref 72, .int v1, .int v2, .retAddr 0, .int v4, .int (v5 + ((sm_w1 m 78 (v7).toNatClampNeg (1 : Int32)).1 78 (v7).toNatClampNeg)), .int (v6 + v4), .int (v7 + (1 : Int32)), .int (v6).toInt16.toInt32] [] (sm_hp (sm_w1 m 78 (v7).toNatClampNeg (1 : Int32))) [(v7, 14), (v7, 14)] rfl (sm_oc q13 (sm_oc q14 (sm_on))) ?_
              refine w_goto (tgt := 46) dX12_sheet_135 rfl ?_
              refine w_wk [true, true, true, false, true, true, true, true, false] ?_
              exact ih v1 v2 v4 (v5 + ((sm_w1 m 78 (v7).toNatClampNeg (1 : Int32)).1 78 (v7).toNatClampNeg)) (v6 + v4) (v7 + (1 : Int32)) (sm_w1 m 78 (v7).toNatClampNeg (1 : Int32)) r hf
      · replace hf := sm_ift hc hf
        refine w_blk bX12_sheet_59 [.ref 72, .int v1, .int v2, .retAddr 0, .int v4, .int v5, .int v6, .int v7, .retAddr 0] [.int (v6).toInt8.toInt32] (sm_hp m) [] rfl (sm_on) ?_
        refine w_goto (tgt := 78) dX12_sheet_62 rfl ?_
        refine w_blk bX12_sheet_78 [.ref 72, .int v1, .int v2, .retAddr 0, .int v4, .int v5, .int v6, .int v7, .int (v6).toInt8.toInt32] [.int (3 : Int32), .int v1, .int v7, .ref 78] (sm_hp m) [] rfl (sm_on) ?_
        refine w_icmp_eq (tgt := 97) dX12_sheet_88 rfl (fun hc => ?_) (fun hc => ?_)
        · replace hf := sm_ift hc hf
          refine w_blk bX12_sheet_97 [.ref 72, .int v1, .int v2, .retAddr 0, .int v4, .int v5, .int v6, .int v7, .int (v6).toInt8.toInt32] [.int (1 : Int32), .int v7, .ref 78] (sm_hp m) [] rfl (sm_on) ?_
          refine w_goto (tgt := 112) dX12_sheet_98 rfl ?_
          replace hf := sm_ck hf
          obtain ⟨q15, hf⟩ := hf
          replace hf := sm_ck hf
          obtain ⟨q16, hf⟩ := hf
          refine w_blk bX12_sheet_112 [.ref 72, .int v1, .int v2, .retAddr 0, .int v4, .int (v5 + ((sm_w1 m 78 (v7).toNatClampNeg (1 : Int32)).1 78 (v7).toNatClampNeg)), .int (v6 + v4), .int (v7 + (1 : Int32)), .int (v6).toInt8.toInt32] [] (sm_hp (sm_w1 m 78 (v7).toNatClampNeg (1 : Int32))) [(v7, 14), (v7, 14)] rfl (sm_oc q15 (sm_oc q16 (sm_on))) ?_
          refine w_goto (tgt := 46) dX12_sheet_135 rfl ?_
          refine w_wk [true, true, true, false, true, true, true, true, false] ?_
          exact ih v1 v2 v4 (v5 + ((sm_w1 m 78 (v7).toNatClampNeg (1 : Int32)).1 78 (v7).toNatClampNeg)) (v6 + v4) (v7 + (1 : Int32)) (sm_w1 m 78 (v7).toNatClampNeg (1 : Int32)) r hf
        · replace hf := sm_iff hc hf
          refine w_blk bX12_sheet_91 [.ref 72, .int v1, .int v2, .retAddr 0, .int v4, .int v5, .int v6, .int v7, .int (v6).toInt8.toInt32] [.int v2, .int v7, .int v7, .ref 78] (sm_hp m) [] rfl (sm_on) ?_
          refine w_icmp_lt (tgt := 101) dX12_sheet_94 rfl (fun hc => ?_) (fun hc => ?_)
          · replace hf := sm_ift hc hf
            refine w_blk bX12_sheet_101 [.ref 72, .int v1, .int v2, .retAddr 0, .int v4, .int v5, .int v6, .int v7, .int (v6).toInt8.toInt32] [.int (if (1 : Int32) < (if (v6).toInt8.toInt32 < (20 : Int32) then (v6).toInt8.toInt32 else (20 : Int32)) then (if (v6).toInt8.toInt32 < (20 : Int32) then (v6).toInt8.toInt32 else (20 : Int32)) else (1 : Int32)), .int v7, .ref 78] (sm_hp m) [] rfl (sm_on) ?_
            replace hf := sm_ck hf
            obtain ⟨q17, hf⟩ := hf
            replace hf := sm_ck hf
            obtain ⟨q18, hf⟩ := hf
            refine w_blk bX12_sheet_112 [.ref 72, .int v1, .int v2, .retAddr 0, .int v4, .int (v5 + ((sm_w1 m 78 (v7).toNatClampNeg (if (1 : Int32) < (if (v6).toInt8.toInt32 < (20 : Int32) then (v6).toInt8.toInt32 else (20 : Int32)) then (if (v6).toInt8.toInt32 < (20 : Int32) then (v6).toInt8.toInt32 else (20 : Int32)) else (1 : Int32))).1 78 (v7).toNatClampNeg)), .int (v6 + v4), .int (v7 + (1 : Int32)), .int (v6).toInt8.toInt32] [] (sm_hp (sm_w1 m 78 (v7).toNatClampNeg (if (1 : Int32) < (if (v6).toInt8.toInt32 < (20 : Int32) then (v6).toInt8.toInt32 else (20 : Int32)) then (if (v6).toInt8.toInt32 < (20 : Int32) then (v6).toInt8.toInt32 else (20 : Int32)) else (1 : Int32)))) [(v7, 14), (v7, 14)] rfl (sm_oc q17 (sm_oc q18 (sm_on))) ?_
            refine w_goto (tgt := 46) dX12_sheet_135 rfl ?_
            refine w_wk [true, true, true, false, true, true, true, true, false] ?_
            exact ih v1 v2 v4 (v5 + ((sm_w1 m 78 (v7).toNatClampNeg (if (1 : Int32) < (if (v6).toInt8.toInt32 < (20 : Int32) then (v6).toInt8.toInt32 else (20 : Int32)) then (if (v6).toInt8.toInt32 < (20 : Int32) then (v6).toInt8.toInt32 else (20 : Int32)) else (1 : Int32))).1 78 (v7).toNatClampNeg)) (v6 + v4) (v7 + (1 : Int32)) (sm_w1 m 78 (v7).toNatClampNeg (if (1 : Int32) < (if (v6).toInt8.toInt32 < (20 : Int32) then (v6).toInt8.toInt32 else (20 : Int32)) then (if (v6).toInt8.toInt32 < (20 : Int32) then (v6).toInt8.toInt32 else (20 : Int32)) else (1 : Int32))) r hf
          · replace hf := sm_iff hc hf
            refine w_blk bX12_sheet_97 [.ref 72, .int v1, .int v2, .retAddr 0, .int v4, .int v5, .int v6, .int v7, .int (v6).toInt8.toInt32] [.int (1 : Int32), .int v7, .ref 78] (sm_hp m) [] rfl (sm_on) ?_
            refine w_goto (tgt := 112) dX12_sheet_98 rfl ?_
            replace hf := sm_ck hf
            obtain ⟨q19, hf⟩ := hf
            replace hf := sm_ck hf
            obtain ⟨q20, hf⟩ := hf
            refine w_blk bX12_sheet_112 [.ref 72, .int v1, .int v2, .retAddr 0, .int v4, .int (v5 + ((sm_w1 m 78 (v7).toNatClampNeg (1 : Int32)).1 78 (v7).toNatClampNeg)), .int (v6 + v4), .int (v7 + (1 : Int32)), .int (v6).toInt8.toInt32] [] (sm_hp (sm_w1 m 78 (v7).toNatClampNeg (1 : Int32))) [(v7, 14), (v7, 14)] rfl (sm_oc q19 (sm_oc q20 (sm_on))) ?_
            refine w_goto (tgt := 46) dX12_sheet_135 rfl ?_
            refine w_wk [true, true, true, false, true, true, true, true, false] ?_
            exact ih v1 v2 v4 (v5 + ((sm_w1 m 78 (v7).toNatClampNeg (1 : Int32)).1 78 (v7).toNatClampNeg)) (v6 + v4) (v7 + (1 : Int32)) (sm_w1 m 78 (v7).toNatClampNeg (1 : Int32)) r hf
set_option maxRecDepth 10000 in
theorem tX12_sheet {l : Launch} {al : Bool} (x1 : Int32) (x2 : Int32) (x3 : Int32) (x4 : Int32) (m : sm_S) (r : Int32 × sm_S) (hf : fX12_sheet x1 x2 x3 x4 m = some r) : sm_Rt l mX12_sheet 2 0 0 al al [.ref 72, .int x1, .int x2, .int x3, .int x4] (sm_hp m) (some (.int r.1), sm_hp r.2) := by
  refine sm_Rt.ofW (L := [.ref 72, .int x1, .int x2, .int x3, .int x4, .retAddr 0, .retAddr 0, .retAddr 0, .retAddr 0]) (by decide) (Nat.le_of_ble_eq_true rfl) rfl ?_
  unfold fX12_sheet at hf
  refine w_blk bX12_sheet_0 [.ref 72, .int x1, .int x2, .int x3, .int x4, .retAddr 0, .retAddr 0, .retAddr 0, .retAddr 0] [.long (3 : Int64), .long (0 : Int64), .long (x1).toInt64] (sm_hp (sm_w1 m 72 0 (0 : Int32))) [] rfl (sm_on) ?_
  replace hf := sm_bd hf
  obtain ⟨r2, q1, hf⟩ := hf
  refine w_callS [.long (x1).toInt64, .long (0 : Int64), .long (3 : Int64)] [] (tX12_in (x1).toInt64 (0 : Int64) (3 : Int64) (sm_w1 m 72 0 (0 : Int32)) r2 q1) (csX12_17 rfl) dX12_sheet_11 rfl rfl (by decide) (by decide) (Nat.le_of_ble_eq_true rfl) ?_
  show sm_W _ _ _ _ _ 14 [.ref 72, .int x1, .int x2, .int x3, .int x4, .retAddr 0, .retAddr 0, .retAddr 0, .retAddr 0] [.int r2] (sm_hp (sm_w1 m 72 0 (0 : Int32)))
  refine w_if_eq (tgt := 23) dX12_sheet_14 rfl (fun hc => ?_) (fun hc => ?_)
  · replace hf := sm_ift hc hf
    refine w_blk bX12_sheet_23 [.ref 72, .int x1, .int x2, .int x3, .int x4, .retAddr 0, .retAddr 0, .retAddr 0, .retAddr 0] [.int (-1 : Int32)] (sm_hp (sm_w1 m 72 0 (0 : Int32))) [] rfl (sm_on) ?_
    obtain rfl := Option.some.inj hf
    exact w_reti dX12_sheet_24 rfl rfl
  · replace hf := sm_iff hc hf
    refine w_blk bX12_sheet_17 [.ref 72, .int x1, .int x2, .int x3, .int x4, .retAddr 0, .retAddr 0, .retAddr 0, .retAddr 0] [.int (14 : Int32), .int x2] (sm_hp (sm_w1 m 72 0 (0 : Int32))) [] rfl (sm_on) ?_
    refine w_icmp_le (tgt := 25) dX12_sheet_20 rfl (fun hc => ?_) (fun hc => ?_)
    · replace hf := sm_ift hc hf
      refine w_blk bX12_sheet_25 [.ref 72, .int x1, .int x2, .int x3, .int x4, .retAddr 0, .retAddr 0, .retAddr 0, .retAddr 0] [.int (3 : Int32), .int x1] (sm_hp (sm_w1 m 72 0 (0 : Int32))) [] rfl (sm_on) ?_
      refine w_icmp_eq (tgt := 37) dX12_sheet_27 rfl (fun hc => ?_) (fun hc => ?_)
      · replace hf := sm_ift hc hf
        refine w_blk bX12_sheet_37 [.ref 72, .int x1, .int x2, .int x3, .int x4, .int (0 : Int32), .int x3, .int (0 : Int32), .retAddr 0] [] (sm_hp (sm_w1 m 72 0 (0 : Int32))) [] rfl (sm_on) ?_
        refine w_wk [true, true, true, false, true, true, true, true, false] ?_
        exact tX12_sheet_46 sm_fu x1 x2 x4 (0 : Int32) x3 (0 : Int32) (sm_w1 m 72 0 (0 : Int32)) r hf
      · replace hf := sm_iff hc hf
        refine w_blk bX12_sheet_30 [.ref 72, .int x1, .int x2, .int x3, .int x4, .retAddr 0, .retAddr 0, .retAddr 0, .retAddr 0] [.int x2] (sm_hp (sm_w1 m 72 0 (0 : Int32))) [] rfl (sm_on) ?_
        refine w_if_ge (tgt := 37) dX12_sheet_31 rfl (fun hc => ?_) (fun hc => ?_)
        · replace hf := sm_ift hc hf
          refine w_blk bX12_sheet_37 [.ref 72, .int x1, .int x2, .int x3, .int x4, .int (0 : Int32), .int x3, .int (0 : Int32), .retAddr 0] [] (sm_hp (sm_w1 m 72 0 (0 : Int32))) [] rfl (sm_on) ?_
          refine w_wk [true, true, true, false, true, true, true, true, false] ?_
          exact tX12_sheet_46 sm_fu x1 x2 x4 (0 : Int32) x3 (0 : Int32) (sm_w1 m 72 0 (0 : Int32)) r hf
        · replace hf := sm_iff hc hf
          refine w_blk bX12_sheet_34 [.ref 72, .int x1, .int x2, .int x3, .int x4, .retAddr 0, .retAddr 0, .retAddr 0, .retAddr 0] [.int (-2 : Int32)] (sm_hp (sm_w1 m 72 0 (0 : Int32))) [] rfl (sm_on) ?_
          obtain rfl := Option.some.inj hf
          exact w_reti dX12_sheet_36 rfl rfl
    · replace hf := sm_iff hc hf
      refine w_blk bX12_sheet_23 [.ref 72, .int x1, .int x2, .int x3, .int x4, .retAddr 0, .retAddr 0, .retAddr 0, .retAddr 0] [.int (-1 : Int32)] (sm_hp (sm_w1 m 72 0 (0 : Int32))) [] rfl (sm_on) ?_
      obtain rfl := Option.some.inj hf
      exact w_reti dX12_sheet_24 rfl rfl
set_option maxRecDepth 10000 in
theorem tX12_isEnd {l : Launch} {al : Bool} (x1 : Int32) (x2 : Int32) (m : sm_S) (r : Int32) (hf : fX12_isEnd x1 x2 m = some r) : sm_Rt l mX12_isEnd 1 0 0 al al [.ref 72, .int x1, .int x2] (sm_hp m) (some (.int r), sm_hp m) := by
  refine sm_Rt.ofW (L := [.ref 72, .int x1, .int x2]) (by decide) (Nat.le_of_ble_eq_true rfl) rfl ?_
  unfold fX12_isEnd at hf
  replace hf := sm_ck hf
  obtain ⟨q1, hf⟩ := hf
  refine w_blk bX12_isEnd_0 [.ref 72, .int x1, .int x2] [.int x2, .int (m.1 76 (x1).toNatClampNeg)] (sm_hp m) [(x1, 14)] rfl (sm_oc q1 (sm_on)) ?_
  refine w_icmp_eq (tgt := 20) dX12_isEnd_7 rfl (fun hc => ?_) (fun hc => ?_)
  · replace hf := sm_ift hc hf
    refine w_blk bX12_isEnd_20 [.ref 72, .int x1, .int x2] [.int (1 : Int32)] (sm_hp m) [] rfl (sm_on) ?_
    refine w_goto (tgt := 25) dX12_isEnd_21 rfl ?_
    obtain rfl := Option.some.inj hf
    exact w_reti dX12_isEnd_25 rfl sm_nb1
  · replace hf := sm_iff hc hf
    replace hf := sm_ck hf
    obtain ⟨q2, hf⟩ := hf
    refine w_blk bX12_isEnd_10 [.ref 72, .int x1, .int x2] [.int x2, .int (m.1 77 (x1).toNatClampNeg)] (sm_hp m) [(x1, 14)] rfl (sm_oc q2 (sm_on)) ?_
    refine w_icmp_ne (tgt := 24) dX12_isEnd_17 rfl (fun hc => ?_) (fun hc => ?_)
    · replace hf := sm_iff hc hf
      refine w_blk bX12_isEnd_24 [.ref 72, .int x1, .int x2] [.int (0 : Int32)] (sm_hp m) [] rfl (sm_on) ?_
      obtain rfl := Option.some.inj hf
      exact w_reti dX12_isEnd_25 rfl sm_nb0
    · replace hf := sm_ift hc hf
      refine w_blk bX12_isEnd_20 [.ref 72, .int x1, .int x2] [.int (1 : Int32)] (sm_hp m) [] rfl (sm_on) ?_
      refine w_goto (tgt := 25) dX12_isEnd_21 rfl ?_
      obtain rfl := Option.some.inj hf
      exact w_reti dX12_isEnd_25 rfl sm_nb1
set_option maxRecDepth 10000 in
theorem tX12_minutesFrom {l : Launch} {al : Bool} (x1 : Int32) (x2 : Int32) (m : sm_S) (r : Int32) (hf : fX12_minutesFrom x1 x2 m = some r) : sm_Rt l mX12_minutesFrom 1 0 0 al al [.ref 72, .int x1, .int x2] (sm_hp m) (some (.int r), sm_hp m) := by
  refine sm_Rt.ofW (L := [.ref 72, .int x1, .int x2]) (by decide) (Nat.le_of_ble_eq_true rfl) rfl ?_
  unfold fX12_minutesFrom at hf
  replace hf := sm_ck hf
  obtain ⟨q1, hf⟩ := hf
  replace hf := sm_ck hf
  obtain ⟨q2, hf⟩ := hf
  refine w_blk bX12_minutesFrom_0 [.ref 72, .int x1, .int x2] [.int (m.1 76 (x1).toNatClampNeg), .int x2, .int (m.1 78 (x1).toNatClampNeg)] (sm_hp m) [(x1, 14), (x1, 14)] rfl (sm_oc q1 (sm_oc q2 (sm_on))) ?_
  refine w_icmp_ne (tgt := 20) dX12_minutesFrom_13 rfl (fun hc => ?_) (fun hc => ?_)
  · replace hf := sm_iff hc hf
    replace hf := sm_ck hf
    obtain ⟨q3, hf⟩ := hf
    refine w_blk bX12_minutesFrom_20 [.ref 72, .int x1, .int x2] [.int (m.1 82 (x1).toNatClampNeg), .int (m.1 78 (x1).toNatClampNeg)] (sm_hp m) [(x1, 14)] rfl (sm_oc q3 (sm_on)) ?_
    refine w_blk bX12_minutesFrom_26 [.ref 72, .int x1, .int x2] [.int ((m.1 78 (x1).toNatClampNeg) + (m.1 82 (x1).toNatClampNeg))] (sm_hp m) [] rfl (sm_on) ?_
    obtain rfl := Option.some.inj hf
    exact w_reti dX12_minutesFrom_27 rfl rfl
  · replace hf := sm_ift hc hf
    refine w_blk bX12_minutesFrom_16 [.ref 72, .int x1, .int x2] [.int (0 : Int32), .int (m.1 78 (x1).toNatClampNeg)] (sm_hp m) [] rfl (sm_on) ?_
    refine w_goto (tgt := 26) dX12_minutesFrom_17 rfl ?_
    refine w_blk bX12_minutesFrom_26 [.ref 72, .int x1, .int x2] [.int ((m.1 78 (x1).toNatClampNeg) + (0 : Int32))] (sm_hp m) [] rfl (sm_on) ?_
    obtain rfl := Option.some.inj hf
    exact w_reti dX12_minutesFrom_27 rfl rfl
set_option maxRecDepth 10000 in
theorem tX12_isLight {l : Launch} {al : Bool} (x1 : Int32) (m : sm_S) (r : Int32) (hf : fX12_isLight x1 m = some r) : sm_Rt l mX12_isLight 1 0 0 al al [.int x1] (sm_hp m) (some (.int r), sm_hp m) := by
  refine sm_Rt.ofW (L := [.int x1]) (by decide) (Nat.le_of_ble_eq_true rfl) rfl ?_
  unfold fX12_isLight at hf
  refine w_blk bX12_isLight_0 [.int x1] [.int (40 : Int32), .int (x1 - x1 / (60 : Int32) * (60 : Int32))] (sm_hp m) [] rfl (sm_on) ?_
  refine w_icmp_ge (tgt := 13) dX12_isLight_6 rfl (fun hc => ?_) (fun hc => ?_)
  · replace hf := sm_ift hc hf
    refine w_blk bX12_isLight_13 [.int x1] [.int (0 : Int32)] (sm_hp m) [] rfl (sm_on) ?_
    obtain rfl := Option.some.inj hf
    exact w_reti dX12_isLight_14 rfl sm_nb0
  · replace hf := sm_iff hc hf
    refine w_blk bX12_isLight_9 [.int x1] [.int (1 : Int32)] (sm_hp m) [] rfl (sm_on) ?_
    refine w_goto (tgt := 14) dX12_isLight_10 rfl ?_
    obtain rfl := Option.some.inj hf
    exact w_reti dX12_isLight_14 rfl sm_nb1
set_option maxRecDepth 10000 in
theorem tX12_whyNot {l : Launch} {al : Bool} (x1 : Int32) (m : sm_S) (r : Int32) (hf : fX12_whyNot x1 m = some r) : sm_Rt l mX12_whyNot 3 0 0 al al [.ref 72, .int x1] (sm_hp m) (some (.int r), sm_hp m) := by
  refine sm_Rt.ofW (L := [.ref 72, .int x1]) (by decide) (Nat.le_of_ble_eq_true rfl) rfl ?_
  unfold fX12_whyNot at hf
  refine w_blk bX12_whyNot_0 [.ref 72, .int x1] [.int (m.1 72 17), .int x1, .ref 72] (sm_hp m) [] rfl (sm_on) ?_
  replace hf := sm_bd hf
  obtain ⟨r2, q1, hf⟩ := hf
  refine w_callV [.int x1, .int (m.1 72 17)] [] (tX12_isEnd x1 (m.1 72 17) m r2 q1) (cvX12_180 rfl) dX12_whyNot_6 rfl rfl (by decide) (by decide) rfl (Nat.le_of_ble_eq_true rfl) ?_
  show sm_W _ _ _ _ _ 9 [.ref 72, .int x1] [.int r2] (sm_hp m)
  refine w_if_ne (tgt := 15) dX12_whyNot_9 rfl (fun hc => ?_) (fun hc => ?_)
  · replace hf := sm_iff hc hf
    refine w_blk bX12_whyNot_15 [.ref 72, .int x1] [.int (m.1 72 18), .int x1, .ref 72] (sm_hp m) [] rfl (sm_on) ?_
    replace hf := sm_bd hf
    obtain ⟨r4, q3, hf⟩ := hf
    refine w_callV [.int x1, .int (m.1 72 18)] [] (tX12_isFresh x1 (m.1 72 18) m r4 q3) (cvX12_151 rfl) dX12_whyNot_21 rfl rfl (by decide) (by decide) rfl (Nat.le_of_ble_eq_true rfl) ?_
    show sm_W _ _ _ _ _ 24 [.ref 72, .int x1] [.int r4] (sm_hp m)
    refine w_if_ne (tgt := 30) dX12_whyNot_24 rfl (fun hc => ?_) (fun hc => ?_)
    · replace hf := sm_iff hc hf
      refine w_blk bX12_whyNot_30 [.ref 72, .int x1] [.int x1, .int (m.1 72 14)] (sm_hp m) [] rfl (sm_on) ?_
      replace hf := sm_bd hf
      obtain ⟨r6, q5, hf⟩ := hf
      refine w_callS [.int (m.1 72 14), .int x1] [] (tX12_has (m.1 72 14) x1 m r6 q5) (csX12_144 rfl) dX12_whyNot_35 rfl rfl (by decide) (by decide) (Nat.le_of_ble_eq_true rfl) ?_
      show sm_W _ _ _ _ _ 38 [.ref 72, .int x1] [.int r6] (sm_hp m)
      refine w_if_eq (tgt := 54) dX12_whyNot_38 rfl (fun hc => ?_) (fun hc => ?_)
      · replace hf := sm_ift hc hf
        refine w_blk bX12_whyNot_54 [.ref 72, .int x1] [.int (m.1 72 17), .int x1, .ref 72, .int (m.1 72 18)] (sm_hp m) [] rfl (sm_on) ?_
        replace hf := sm_bd hf
        obtain ⟨r8, q7, hf⟩ := hf
        refine w_callV [.int x1, .int (m.1 72 17)] [.int (m.1 72 18)] (tX12_minutesFrom x1 (m.1 72 17) m r8 q7) (cvX12_186 rfl) dX12_whyNot_64 rfl rfl (by decide) (by decide) rfl (Nat.le_of_ble_eq_true rfl) ?_
        show sm_W _ _ _ _ _ 67 [.ref 72, .int x1] [.int r8, .int (m.1 72 18)] (sm_hp m)
        refine w_blk bX12_whyNot_67 [.ref 72, .int x1] [.int (m.1 72 16), .int ((m.1 72 18) + r8)] (sm_hp m) [] rfl (sm_on) ?_
        refine w_icmp_le (tgt := 80) dX12_whyNot_72 rfl (fun hc => ?_) (fun hc => ?_)
        · replace hf := sm_ift hc hf
          refine w_blk bX12_whyNot_80 [.ref 72, .int x1] [.int (0 : Int32)] (sm_hp m) [] rfl (sm_on) ?_
          obtain rfl := Option.some.inj hf
          exact w_reti dX12_whyNot_81 rfl rfl
        · replace hf := sm_iff hc hf
          refine w_blk bX12_whyNot_75 [.ref 72, .int x1] [.int (-5 : Int32)] (sm_hp m) [] rfl (sm_on) ?_
          refine w_goto (tgt := 81) dX12_whyNot_77 rfl ?_
          obtain rfl := Option.some.inj hf
          exact w_reti dX12_whyNot_81 rfl rfl
      · replace hf := sm_iff hc hf
        refine w_blk bX12_whyNot_41 [.ref 72, .int x1] [.int (m.1 72 18)] (sm_hp m) [] rfl (sm_on) ?_
        replace hf := sm_bd hf
        obtain ⟨r10, q9, hf⟩ := hf
        refine w_callS [.int (m.1 72 18)] [] (tX12_isLight (m.1 72 18) m r10 q9) (csX12_183 rfl) dX12_whyNot_45 rfl rfl (by decide) (by decide) (Nat.le_of_ble_eq_true rfl) ?_
        show sm_W _ _ _ _ _ 48 [.ref 72, .int x1] [.int r10] (sm_hp m)
        refine w_if_ne (tgt := 54) dX12_whyNot_48 rfl (fun hc => ?_) (fun hc => ?_)
        · replace hf := sm_iff hc hf
          refine w_blk bX12_whyNot_54 [.ref 72, .int x1] [.int (m.1 72 17), .int x1, .ref 72, .int (m.1 72 18)] (sm_hp m) [] rfl (sm_on) ?_
          replace hf := sm_bd hf
          obtain ⟨r12, q11, hf⟩ := hf
          refine w_callV [.int x1, .int (m.1 72 17)] [.int (m.1 72 18)] (tX12_minutesFrom x1 (m.1 72 17) m r12 q11) (cvX12_186 rfl) dX12_whyNot_64 rfl rfl (by decide) (by decide) rfl (Nat.le_of_ble_eq_true rfl) ?_
          show sm_W _ _ _ _ _ 67 [.ref 72, .int x1] [.int r12, .int (m.1 72 18)] (sm_hp m)
          refine w_blk bX12_whyNot_67 [.ref 72, .int x1] [.int (m.1 72 16), .int ((m.1 72 18) + r12)] (sm_hp m) [] rfl (sm_on) ?_
          refine w_icmp_le (tgt := 80) dX12_whyNot_72 rfl (fun hc => ?_) (fun hc => ?_)
          · replace hf := sm_ift hc hf
            refine w_blk bX12_whyNot_80 [.ref 72, .int x1] [.int (0 : Int32)] (sm_hp m) [] rfl (sm_on) ?_
            obtain rfl := Option.some.inj hf
            exact w_reti dX12_whyNot_81 rfl rfl
          · replace hf := sm_iff hc hf
            refine w_blk bX12_whyNot_75 [.ref 72, .int x1] [.int (-5 : Int32)] (sm_hp m) [] rfl (sm_on) ?_
            refine w_goto (tgt := 81) dX12_whyNot_77 rfl ?_
            obtain rfl := Option.some.inj hf
            exact w_reti dX12_whyNot_81 rfl rfl
        · replace hf := sm_ift hc hf
          refine w_blk bX12_whyNot_51 [.ref 72, .int x1] [.int (-4 : Int32)] (sm_hp m) [] rfl (sm_on) ?_
          obtain rfl := Option.some.inj hf
          exact w_reti dX12_whyNot_53 rfl rfl
    · replace hf := sm_ift hc hf
      refine w_blk bX12_whyNot_27 [.ref 72, .int x1] [.int (-3 : Int32)] (sm_hp m) [] rfl (sm_on) ?_
      obtain rfl := Option.some.inj hf
      exact w_reti dX12_whyNot_29 rfl rfl
  · replace hf := sm_ift hc hf
    refine w_blk bX12_whyNot_12 [.ref 72, .int x1] [.int (-2 : Int32)] (sm_hp m) [] rfl (sm_on) ?_
    obtain rfl := Option.some.inj hf
    exact w_reti dX12_whyNot_14 rfl rfl
set_option maxRecDepth 10000 in
theorem tX12_putsBy_11 {l : Launch} {al : Bool} : ∀ (n : Nat) (v1 : Int32) (v2 : Int32) (m : sm_S) (r : sm_S), fX12_putsBy_11 n v1 v2 m = some r → sm_W l mX12_putsBy 1 al (none, sm_hp r) 11 [.ref 72, .int v1, .int v2] [] (sm_hp m) := by
  intro n
  induction n with
  | zero =>
    intro v1 v2 m r hf
    unfold fX12_putsBy_11 at hf
    cases hf
  | succ n ih =>
    intro v1 v2 m r hf
    unfold fX12_putsBy_11 at hf
    refine w_blk bX12_putsBy_11 [.ref 72, .int v1, .int v2] [.int (30 : Int32), .int v2] (sm_hp m) [] rfl (sm_on) ?_
    refine w_icmp_ge (tgt := 79) dX12_putsBy_14 rfl (fun hc => ?_) (fun hc => ?_)
    · replace hf := sm_ift hc hf
      refine w_blk bX12_putsBy_79 [.ref 72, .int v1, .int v2] [] (sm_hp (sm_w1 m 72 27 ((m.1 72 27) - (1 : Int32)))) [] rfl (sm_on) ?_
      replace hf := sm_ck hf
      obtain ⟨q6, hf⟩ := hf
      replace hf := sm_ck hf
      obtain ⟨q7, hf⟩ := hf
      replace hf := sm_ck hf
      obtain ⟨q8, hf⟩ := hf
      replace hf := sm_ck hf
      obtain ⟨q9, hf⟩ := hf
      replace hf := sm_ck hf
      obtain ⟨q10, hf⟩ := hf
      refine w_blk bX12_putsBy_89 [.ref 72, .int v1, .int v2] [] (sm_hp (sm_w1 (sm_w1 (sm_w1 (sm_w1 (sm_w1 (sm_w1 m 72 27 ((m.1 72 27) - (1 : Int32))) 85 ((m.1 72 27) - (1 : Int32)).toNatClampNeg v1) 86 ((m.1 72 27) - (1 : Int32)).toNatClampNeg (m.1 72 17)) 87 ((m.1 72 27) - (1 : Int32)).toNatClampNeg (m.1 72 18)) 88 ((m.1 72 27) - (1 : Int32)).toNatClampNeg (m.1 83 (v1).toNatClampNeg)) 72 27 (((m.1 72 27) - (1 : Int32)) + (1 : Int32)))) [(((m.1 72 27) - (1 : Int32)), 30), (((m.1 72 27) - (1 : Int32)), 30), (((m.1 72 27) - (1 : Int32)), 30), (v1, 14), (((m.1 72 27) - (1 : Int32)), 30)] rfl (sm_oc q6 (sm_oc q7 (sm_oc q8 (sm_oc q9 (sm_oc q10 (sm_on)))))) ?_
      obtain rfl := Option.some.inj hf
      exact w_retv dX12_putsBy_150 rfl
    · replace hf := sm_iff hc hf
      replace hf := sm_ck hf
      obtain ⟨q11, hf⟩ := hf
      replace hf := sm_ck hf
      obtain ⟨q12, hf⟩ := hf
      replace hf := sm_ck hf
      obtain ⟨q13, hf⟩ := hf
      replace hf := sm_ck hf
      obtain ⟨q14, hf⟩ := hf
      replace hf := sm_ck hf
      obtain ⟨q15, hf⟩ := hf
      replace hf := sm_ck hf
      obtain ⟨q16, hf⟩ := hf
      replace hf := sm_ck hf
      obtain ⟨q17, hf⟩ := hf
      replace hf := sm_ck hf
      obtain ⟨q18, hf⟩ := hf
      refine w_blk bX12_putsBy_17 [.ref 72, .int v1, .int (v2 + (1 : Int32))] [] (sm_hp (sm_w1 (sm_w1 (sm_w1 (sm_w1 m 85 (v2 - (1 : Int32)).toNatClampNeg (m.1 85 (v2).toNatClampNeg)) 86 (v2 - (1 : Int32)).toNatClampNeg (m.1 86 (v2).toNatClampNeg)) 87 (v2 - (1 : Int32)).toNatClampNeg (m.1 87 (v2).toNatClampNeg)) 88 (v2 - (1 : Int32)).toNatClampNeg (m.1 88 (v2).toNatClampNeg))) [(v2, 30), ((v2 - (1 : Int32)), 30), (v2, 30), ((v2 - (1 : Int32)), 30), (v2, 30), ((v2 - (1 : Int32)), 30), (v2, 30), ((v2 - (1 : Int32)), 30)] rfl (sm_oc q11 (sm_oc q12 (sm_oc q13 (sm_oc q14 (sm_oc q15 (sm_oc q16 (sm_oc q17 (sm_oc q18 (sm_on))))))))) ?_
      refine w_goto (tgt := 11) dX12_putsBy_76 rfl ?_
      exact ih v1 (v2 + (1 : Int32)) (sm_w1 (sm_w1 (sm_w1 (sm_w1 m 85 (v2 - (1 : Int32)).toNatClampNeg (m.1 85 (v2).toNatClampNeg)) 86 (v2 - (1 : Int32)).toNatClampNeg (m.1 86 (v2).toNatClampNeg)) 87 (v2 - (1 : Int32)).toNatClampNeg (m.1 87 (v2).toNatClampNeg)) 88 (v2 - (1 : Int32)).toNatClampNeg (m.1 88 (v2).toNatClampNeg)) r hf
set_option maxRecDepth 10000 in
theorem tX12_putsBy {l : Launch} {al : Bool} (x1 : Int32) (m : sm_S) (r : sm_S) (hf : fX12_putsBy x1 m = some r) : sm_Rt l mX12_putsBy 1 0 0 al al [.ref 72, .int x1] (sm_hp m) (none, sm_hp r) := by
  refine sm_Rt.ofW (L := [.ref 72, .int x1, .retAddr 0]) (by decide) (Nat.le_of_ble_eq_true rfl) rfl ?_
  unfold fX12_putsBy at hf
  refine w_blk bX12_putsBy_0 [.ref 72, .int x1, .retAddr 0] [.int (30 : Int32), .int (m.1 72 27)] (sm_hp m) [] rfl (sm_on) ?_
  refine w_icmp_ne (tgt := 89) dX12_putsBy_6 rfl (fun hc => ?_) (fun hc => ?_)
  · replace hf := sm_iff hc hf
    replace hf := sm_ck hf
    obtain ⟨q1, hf⟩ := hf
    replace hf := sm_ck hf
    obtain ⟨q2, hf⟩ := hf
    replace hf := sm_ck hf
    obtain ⟨q3, hf⟩ := hf
    replace hf := sm_ck hf
    obtain ⟨q4, hf⟩ := hf
    replace hf := sm_ck hf
    obtain ⟨q5, hf⟩ := hf
    refine w_blk bX12_putsBy_89 [.ref 72, .int x1, .retAddr 0] [] (sm_hp (sm_w1 (sm_w1 (sm_w1 (sm_w1 (sm_w1 m 85 (m.1 72 27).toNatClampNeg x1) 86 (m.1 72 27).toNatClampNeg (m.1 72 17)) 87 (m.1 72 27).toNatClampNeg (m.1 72 18)) 88 (m.1 72 27).toNatClampNeg (m.1 83 (x1).toNatClampNeg)) 72 27 ((m.1 72 27) + (1 : Int32)))) [((m.1 72 27), 30), ((m.1 72 27), 30), ((m.1 72 27), 30), (x1, 14), ((m.1 72 27), 30)] rfl (sm_oc q1 (sm_oc q2 (sm_oc q3 (sm_oc q4 (sm_oc q5 (sm_on)))))) ?_
    obtain rfl := Option.some.inj hf
    exact w_retv dX12_putsBy_150 rfl
  · replace hf := sm_ift hc hf
    refine w_blk bX12_putsBy_9 [.ref 72, .int x1, .int (1 : Int32)] [] (sm_hp m) [] rfl (sm_on) ?_
    exact tX12_putsBy_11 sm_fu x1 (1 : Int32) m r hf
set_option maxRecDepth 10000 in
theorem tX12_endOf {l : Launch} {al : Bool} (x1 : Int32) (x2 : Int32) (m : sm_S) (r : Int32) (hf : fX12_endOf x1 x2 m = some r) : sm_Rt l mX12_endOf 1 0 0 al al [.ref 72, .int x1, .int x2] (sm_hp m) (some (.int r), sm_hp m) := by
  refine sm_Rt.ofW (L := [.ref 72, .int x1, .int x2]) (by decide) (Nat.le_of_ble_eq_true rfl) rfl ?_
  unfold fX12_endOf at hf
  replace hf := sm_ck hf
  obtain ⟨q1, hf⟩ := hf
  refine w_blk bX12_endOf_0 [.ref 72, .int x1, .int x2] [.int x2, .int (m.1 76 (x1).toNatClampNeg)] (sm_hp m) [(x1, 14)] rfl (sm_oc q1 (sm_on)) ?_
  refine w_icmp_ne (tgt := 19) dX12_endOf_7 rfl (fun hc => ?_) (fun hc => ?_)
  · replace hf := sm_iff hc hf
    replace hf := sm_ck hf
    obtain ⟨q2, hf⟩ := hf
    refine w_blk bX12_endOf_19 [.ref 72, .int x1, .int x2] [.int (m.1 76 (x1).toNatClampNeg)] (sm_hp m) [(x1, 14)] rfl (sm_oc q2 (sm_on)) ?_
    obtain rfl := Option.some.inj hf
    exact w_reti dX12_endOf_25 rfl rfl
  · replace hf := sm_ift hc hf
    replace hf := sm_ck hf
    obtain ⟨q3, hf⟩ := hf
    refine w_blk bX12_endOf_10 [.ref 72, .int x1, .int x2] [.int (m.1 77 (x1).toNatClampNeg)] (sm_hp m) [(x1, 14)] rfl (sm_oc q3 (sm_on)) ?_
    refine w_goto (tgt := 25) dX12_endOf_16 rfl ?_
    obtain rfl := Option.some.inj hf
    exact w_reti dX12_endOf_25 rfl rfl
set_option maxRecDepth 10000 in
theorem tX12_walks {l : Launch} {al : Bool} (x1 : Int32) (m : sm_S) (r : Int32 × sm_S) (hf : fX12_walks x1 m = some r) : sm_Rt l mX12_walks 2 0 0 al al [.ref 72, .int x1] (sm_hp m) (some (.int r.1), sm_hp r.2) := by
  refine sm_Rt.ofW (L := [.ref 72, .int x1, .retAddr 0]) (by decide) (Nat.le_of_ble_eq_true rfl) rfl ?_
  unfold fX12_walks at hf
  refine w_blk bX12_walks_0 [.ref 72, .int x1, .retAddr 0] [.int (m.1 72 17), .int x1, .ref 72] (sm_hp m) [] rfl (sm_on) ?_
  replace hf := sm_bd hf
  obtain ⟨r2, q1, hf⟩ := hf
  refine w_callV [.int x1, .int (m.1 72 17)] [] (tX12_minutesFrom x1 (m.1 72 17) m r2 q1) (cvX12_186 rfl) dX12_walks_6 rfl rfl (by decide) (by decide) rfl (Nat.le_of_ble_eq_true rfl) ?_
  show sm_W _ _ _ _ _ 9 [.ref 72, .int x1, .retAddr 0] [.int r2] (sm_hp m)
  refine w_blk bX12_walks_9 [.ref 72, .int x1, .int r2] [.int (m.1 72 18), .int x1, .ref 83] (sm_hp m) [] rfl (sm_on) ?_
  replace hf := sm_bd hf
  obtain ⟨r4, q3, hf⟩ := hf
  refine w_callS [.int (m.1 72 18)] [.int x1, .ref 83] (tX12_dayOf (m.1 72 18) m r4 q3) (csX12_129 rfl) dX12_walks_19 rfl rfl (by decide) (by decide) (Nat.le_of_ble_eq_true rfl) ?_
  show sm_W _ _ _ _ _ 22 [.ref 72, .int x1, .int r2] [.int r4, .int x1, .ref 83] (sm_hp m)
  replace hf := sm_ck hf
  obtain ⟨q5, hf⟩ := hf
  refine w_blk bX12_walks_22 [.ref 72, .int x1, .int r2] [.int (m.1 72 17), .int x1, .ref 72, .ref 72] (sm_hp (sm_w1 m 83 (x1).toNatClampNeg r4)) [(x1, 14)] rfl (sm_oc q5 (sm_on)) ?_
  replace hf := sm_bd hf
  obtain ⟨r7, q6, hf⟩ := hf
  refine w_callV [.int x1, .int (m.1 72 17)] [.ref 72] (tX12_endOf x1 (m.1 72 17) (sm_w1 m 83 (x1).toNatClampNeg r4) r7 q6) (cvX12_201 rfl) dX12_walks_30 rfl rfl (by decide) (by decide) rfl (Nat.le_of_ble_eq_true rfl) ?_
  show sm_W _ _ _ _ _ 33 [.ref 72, .int x1, .int r2] [.int r7, .ref 72] (sm_hp (sm_w1 m 83 (x1).toNatClampNeg r4))
  refine w_blk bX12_walks_33 [.ref 72, .int x1, .int r2] [.int r2] (sm_hp (sm_w1 (sm_w1 (sm_w1 m 83 (x1).toNatClampNeg r4) 72 17 r7) 72 18 ((m.1 72 18) + r2))) [] rfl (sm_on) ?_
  obtain rfl := Option.some.inj hf
  exact w_reti dX12_walks_47 rfl rfl
set_option maxRecDepth 10000 in
theorem tX12_walk {l : Launch} {al : Bool} (x1 : Int32) (m : sm_S) (r : Int32 × sm_S) (hf : fX12_walk x1 m = some r) : sm_Rt l mX12_walk 4 0 0 al al [.ref 72, .int x1] (sm_hp m) (some (.int r.1), sm_hp r.2) := by
  refine sm_Rt.ofW (L := [.ref 72, .int x1, .retAddr 0]) (by decide) (Nat.le_of_ble_eq_true rfl) rfl ?_
  unfold fX12_walk at hf
  refine w_blk bX12_walk_0 [.ref 72, .int x1, .retAddr 0] [.int x1, .ref 72] (sm_hp (sm_w1 m 72 0 (0 : Int32))) [] rfl (sm_on) ?_
  replace hf := sm_bd hf
  obtain ⟨r2, q1, hf⟩ := hf
  refine w_callV [.int x1] [] (tX12_isHedge x1 (sm_w1 m 72 0 (0 : Int32)) r2 q1) (cvX12_135 rfl) dX12_walk_7 rfl rfl (by decide) (by decide) rfl (Nat.le_of_ble_eq_true rfl) ?_
  show sm_W _ _ _ _ _ 10 [.ref 72, .int x1, .retAddr 0] [.int r2] (sm_hp (sm_w1 m 72 0 (0 : Int32)))
  refine w_if_ne (tgt := 15) dX12_walk_10 rfl (fun hc => ?_) (fun hc => ?_)
  · replace hf := sm_iff hc hf
    refine w_blk bX12_walk_15 [.ref 72, .int x1, .retAddr 0] [.int x1, .ref 72] (sm_hp (sm_w1 m 72 0 (0 : Int32))) [] rfl (sm_on) ?_
    replace hf := sm_bd hf
    obtain ⟨r4, q3, hf⟩ := hf
    refine w_callV [.int x1] [] (tX12_whyNot x1 (sm_w1 m 72 0 (0 : Int32)) r4 q3) (cvX12_204 rfl) dX12_walk_17 rfl rfl (by decide) (by decide) rfl (Nat.le_of_ble_eq_true rfl) ?_
    show sm_W _ _ _ _ _ 20 [.ref 72, .int x1, .retAddr 0] [.int r4] (sm_hp (sm_w1 m 72 0 (0 : Int32)))
    refine w_blk bX12_walk_20 [.ref 72, .int x1, .int r4] [.int r4] (sm_hp (sm_w1 m 72 0 (0 : Int32))) [] rfl (sm_on) ?_
    refine w_if_ge (tgt := 27) dX12_walk_22 rfl (fun hc => ?_) (fun hc => ?_)
    · replace hf := sm_ift hc hf
      refine w_blk bX12_walk_27 [.ref 72, .int x1, .int r4] [.int x1, .ref 72] (sm_hp (sm_w1 m 72 0 (0 : Int32))) [] rfl (sm_on) ?_
      replace hf := sm_bd hf
      obtain ⟨m6, q5, hf⟩ := hf
      refine w_callV [.int x1] [] (tX12_putsBy x1 (sm_w1 m 72 0 (0 : Int32)) m6 q5) (cvX12_207 rfl) dX12_walk_29 rfl rfl (by decide) (by decide) rfl (Nat.le_of_ble_eq_true rfl) ?_
      show sm_W _ _ _ _ _ 32 [.ref 72, .int x1, .int r4] [] (sm_hp m6)
      refine w_blk bX12_walk_32 [.ref 72, .int x1, .int r4] [.int x1, .ref 72] (sm_hp m6) [] rfl (sm_on) ?_
      replace hf := sm_bd hf
      obtain ⟨r8, q7, hf⟩ := hf
      refine w_callV [.int x1] [] (tX12_walks x1 m6 r8 q7) (cvX12_211 rfl) dX12_walk_34 rfl rfl (by decide) (by decide) rfl (Nat.le_of_ble_eq_true rfl) ?_
      show sm_W _ _ _ _ _ 37 [.ref 72, .int x1, .int r4] [.int r8.1] (sm_hp r8.2)
      obtain rfl := Option.some.inj hf
      exact w_reti dX12_walk_37 rfl rfl
    · replace hf := sm_iff hc hf
      refine w_blk bX12_walk_25 [.ref 72, .int x1, .int r4] [.int r4] (sm_hp (sm_w1 m 72 0 (0 : Int32))) [] rfl (sm_on) ?_
      obtain rfl := Option.some.inj hf
      exact w_reti dX12_walk_26 rfl rfl
  · replace hf := sm_ift hc hf
    refine w_blk bX12_walk_13 [.ref 72, .int x1, .retAddr 0] [.int (-1 : Int32)] (sm_hp (sm_w1 m 72 0 (0 : Int32))) [] rfl (sm_on) ?_
    obtain rfl := Option.some.inj hf
    exact w_reti dX12_walk_14 rfl rfl
set_option maxRecDepth 10000 in
theorem tX12_rest {l : Launch} {al : Bool} (x1 : Int32) (m : sm_S) (r : Int32 × sm_S) (hf : fX12_rest x1 m = some r) : sm_Rt l mX12_rest 2 0 0 al al [.ref 72, .int x1] (sm_hp m) (some (.int r.1), sm_hp r.2) := by
  refine sm_Rt.ofW (L := [.ref 72, .int x1]) (by decide) (Nat.le_of_ble_eq_true rfl) rfl ?_
  unfold fX12_rest at hf
  refine w_blk bX12_rest_0 [.ref 72, .int x1] [.long (9999 : Int64), .long (0 : Int64), .long (x1).toInt64] (sm_hp (sm_w1 m 72 0 (0 : Int32))) [] rfl (sm_on) ?_
  replace hf := sm_bd hf
  obtain ⟨r2, q1, hf⟩ := hf
  refine w_callS [.long (x1).toInt64, .long (0 : Int64), .long (9999 : Int64)] [] (tX12_in (x1).toInt64 (0 : Int64) (9999 : Int64) (sm_w1 m 72 0 (0 : Int32)) r2 q1) (csX12_17 rfl) dX12_rest_11 rfl rfl (by decide) (by decide) (Nat.le_of_ble_eq_true rfl) ?_
  show sm_W _ _ _ _ _ 14 [.ref 72, .int x1] [.int r2] (sm_hp (sm_w1 m 72 0 (0 : Int32)))
  refine w_if_ne (tgt := 19) dX12_rest_14 rfl (fun hc => ?_) (fun hc => ?_)
  · replace hf := sm_iff hc hf
    refine w_blk bX12_rest_19 [.ref 72, .int x1] [.int (m.1 72 16), .int ((m.1 72 18) + x1)] (sm_hp (sm_w1 m 72 0 (0 : Int32))) [] rfl (sm_on) ?_
    refine w_icmp_le (tgt := 35) dX12_rest_29 rfl (fun hc => ?_) (fun hc => ?_)
    · replace hf := sm_ift hc hf
      refine w_blk bX12_rest_35 [.ref 72, .int x1] [.int ((m.1 72 18) + x1)] (sm_hp (sm_w1 (sm_w1 (sm_w1 m 72 0 (0 : Int32)) 72 18 ((m.1 72 18) + x1)) 72 27 (0 : Int32))) [] rfl (sm_on) ?_
      obtain rfl := Option.some.inj hf
      exact w_reti dX12_rest_54 rfl rfl
    · replace hf := sm_iff hc hf
      refine w_blk bX12_rest_32 [.ref 72, .int x1] [.int (-5 : Int32)] (sm_hp (sm_w1 m 72 0 (0 : Int32))) [] rfl (sm_on) ?_
      obtain rfl := Option.some.inj hf
      exact w_reti dX12_rest_34 rfl rfl
  · replace hf := sm_ift hc hf
    refine w_blk bX12_rest_17 [.ref 72, .int x1] [.int (-1 : Int32)] (sm_hp (sm_w1 m 72 0 (0 : Int32))) [] rfl (sm_on) ?_
    obtain rfl := Option.some.inj hf
    exact w_reti dX12_rest_18 rfl rfl
set_option maxRecDepth 10000 in
theorem tX12_undo {l : Launch} {al : Bool} (m : sm_S) (r : Int32 × sm_S) (hf : fX12_undo m = some r) : sm_Rt l mX12_undo 1 0 0 al al [.ref 72] (sm_hp m) (some (.int r.1), sm_hp r.2) := by
  refine sm_Rt.ofW (L := [.ref 72]) (by decide) (Nat.le_of_ble_eq_true rfl) rfl ?_
  unfold fX12_undo at hf
  refine w_blk bX12_undo_0 [.ref 72] [.int (m.1 72 27)] (sm_hp (sm_w1 m 72 0 (0 : Int32))) [] rfl (sm_on) ?_
  refine w_if_ne (tgt := 14) dX12_undo_9 rfl (fun hc => ?_) (fun hc => ?_)
  · replace hf := sm_iff hc hf
    replace hf := sm_ck hf
    obtain ⟨q1, hf⟩ := hf
    replace hf := sm_ck hf
    obtain ⟨q2, hf⟩ := hf
    replace hf := sm_ck hf
    obtain ⟨q3, hf⟩ := hf
    replace hf := sm_ck hf
    obtain ⟨q4, hf⟩ := hf
    replace hf := sm_ck hf
    obtain ⟨q5, hf⟩ := hf
    refine w_blk bX12_undo_14 [.ref 72] [.int ((m.1 72 27) - (1 : Int32))] (sm_hp (sm_w1 (sm_w1 (sm_w1 (sm_w1 (sm_w1 m 72 0 (0 : Int32)) 72 27 ((m.1 72 27) - (1 : Int32))) 72 17 (m.1 86 ((m.1 72 27) - (1 : Int32)).toNatClampNeg)) 72 18 (m.1 87 ((m.1 72 27) - (1 : Int32)).toNatClampNeg)) 83 (m.1 85 ((m.1 72 27) - (1 : Int32)).toNatClampNeg).toNatClampNeg (m.1 88 ((m.1 72 27) - (1 : Int32)).toNatClampNeg))) [(((m.1 72 27) - (1 : Int32)), 30), (((m.1 72 27) - (1 : Int32)), 30), (((m.1 72 27) - (1 : Int32)), 30), (((m.1 72 27) - (1 : Int32)), 30), ((m.1 85 ((m.1 72 27) - (1 : Int32)).toNatClampNeg), 14)] rfl (sm_oc q1 (sm_oc q2 (sm_oc q3 (sm_oc q4 (sm_oc q5 (sm_on)))))) ?_
    obtain rfl := Option.some.inj hf
    exact w_reti dX12_undo_77 rfl rfl
  · replace hf := sm_ift hc hf
    refine w_blk bX12_undo_12 [.ref 72] [.int (-1 : Int32)] (sm_hp (sm_w1 m 72 0 (0 : Int32))) [] rfl (sm_on) ?_
    obtain rfl := Option.some.inj hf
    exact w_reti dX12_undo_13 rfl rfl
set_option maxRecDepth 10000 in
theorem tX12_go_32 {l : Launch} {al : Bool} : ∀ (n : Nat) (v2 : Int32) (m : sm_S) (r : Int32 × sm_S), fX12_go_32 n v2 m = some r → sm_W l mX12_go 3 al (some (.int r.1), sm_hp r.2) 32 [.ref 72, .retAddr 0, .int v2] [] (sm_hp m) := by
  intro n
  induction n with
  | zero =>
    intro v2 m r hf
    unfold fX12_go_32 at hf
    cases hf
  | succ n ih =>
    intro v2 m r hf
    unfold fX12_go_32 at hf
    refine w_blk bX12_go_32 [.ref 72, .retAddr 0, .int v2] [.int (14 : Int32), .int v2] (sm_hp m) [] rfl (sm_on) ?_
    refine w_icmp_ge (tgt := 51) dX12_go_35 rfl (fun hc => ?_) (fun hc => ?_)
    · replace hf := sm_ift hc hf
      refine w_blk bX12_go_51 [.ref 72, .retAddr 0, .int v2] [.int (1 : Int32)] (sm_hp m) [] rfl (sm_on) ?_
      obtain rfl := Option.some.inj hf
      exact w_reti dX12_go_52 rfl sm_nb1
    · replace hf := sm_iff hc hf
      replace hf := sm_ck hf
      obtain ⟨q3, hf⟩ := hf
      refine w_blk bX12_go_38 [.ref 72, .retAddr 0, .int (v2 + (1 : Int32))] [] (sm_hp (sm_w1 m 83 (v2).toNatClampNeg (-1 : Int32))) [(v2, 14)] rfl (sm_oc q3 (sm_on)) ?_
      refine w_goto (tgt := 32) dX12_go_48 rfl ?_
      exact ih (v2 + (1 : Int32)) (sm_w1 m 83 (v2).toNatClampNeg (-1 : Int32)) r hf
set_option maxRecDepth 10000 in
theorem tX12_go {l : Launch} {al : Bool} (x1 : Int32) (m : sm_S) (r : Int32 × sm_S) (hf : fX12_go x1 m = some r) : sm_Rt l mX12_go 3 0 0 al al [.ref 72, .int x1] (sm_hp m) (some (.int r.1), sm_hp r.2) := by
  refine sm_Rt.ofW (L := [.ref 72, .int x1, .retAddr 0]) (by decide) (Nat.le_of_ble_eq_true rfl) rfl ?_
  unfold fX12_go at hf
  refine w_blk bX12_go_0 [.ref 72, .int x1, .retAddr 0] [.int x1, .ref 72] (sm_hp (sm_w1 m 72 0 (0 : Int32))) [] rfl (sm_on) ?_
  replace hf := sm_bd hf
  obtain ⟨r2, q1, hf⟩ := hf
  refine w_callV [.int x1] [] (tX12_isCorner x1 (sm_w1 m 72 0 (0 : Int32)) r2 q1) (cvX12_157 rfl) dX12_go_7 rfl rfl (by decide) (by decide) rfl (Nat.le_of_ble_eq_true rfl) ?_
  show sm_W _ _ _ _ _ 10 [.ref 72, .int x1, .retAddr 0] [.int r2] (sm_hp (sm_w1 m 72 0 (0 : Int32)))
  refine w_if_ne (tgt := 15) dX12_go_10 rfl (fun hc => ?_) (fun hc => ?_)
  · replace hf := sm_iff hc hf
    refine w_blk bX12_go_15 [.ref 72, .int x1, .int (0 : Int32)] [] (sm_hp (sm_w1 (sm_w1 (sm_w1 (sm_w1 m 72 0 (0 : Int32)) 72 17 x1) 72 18 (0 : Int32)) 72 27 (0 : Int32))) [] rfl (sm_on) ?_
    refine w_wk [true, false, true] ?_
    exact tX12_go_32 sm_fu (0 : Int32) (sm_w1 (sm_w1 (sm_w1 (sm_w1 m 72 0 (0 : Int32)) 72 17 x1) 72 18 (0 : Int32)) 72 27 (0 : Int32)) r hf
  · replace hf := sm_ift hc hf
    refine w_blk bX12_go_13 [.ref 72, .int x1, .retAddr 0] [.int (0 : Int32)] (sm_hp (sm_w1 m 72 0 (0 : Int32))) [] rfl (sm_on) ?_
    obtain rfl := Option.some.inj hf
    exact w_reti dX12_go_14 rfl sm_nb0
set_option maxRecDepth 10000 in
theorem tX12_canNow_4 {l : Launch} {al : Bool} : ∀ (n : Nat) (v1 : Int32) (v2 : Int32) (m : sm_S) (r : Int32), fX12_canNow_4 n v1 v2 m = some r → sm_W l mX12_canNow 4 al (some (.int r), sm_hp m) 4 [.ref 72, .int v1, .int v2] [] (sm_hp m) := by
  intro n
  induction n with
  | zero =>
    intro v1 v2 m r hf
    unfold fX12_canNow_4 at hf
    cases hf
  | succ n ih =>
    intro v1 v2 m r hf
    unfold fX12_canNow_4 at hf
    refine w_blk bX12_canNow_4 [.ref 72, .int v1, .int v2] [.int (m.1 72 6), .int v2] (sm_hp m) [] rfl (sm_on) ?_
    refine w_icmp_ge (tgt := 36) dX12_canNow_9 rfl (fun hc => ?_) (fun hc => ?_)
    · replace hf := sm_ift hc hf
      refine w_blk bX12_canNow_36 [.ref 72, .int v1, .int v2] [.int v1] (sm_hp m) [] rfl (sm_on) ?_
      obtain rfl := Option.some.inj hf
      exact w_reti dX12_canNow_37 rfl rfl
    · replace hf := sm_iff hc hf
      refine w_blk bX12_canNow_12 [.ref 72, .int v1, .int v2] [.int v2, .ref 72, .int v1] (sm_hp m) [] rfl (sm_on) ?_
      replace hf := sm_bd hf
      obtain ⟨r2, q1, hf⟩ := hf
      refine w_callV [.int v2] [.int v1] (tX12_whyNot v2 m r2 q1) (cvX12_204 rfl) dX12_canNow_15 rfl rfl (by decide) (by decide) rfl (Nat.le_of_ble_eq_true rfl) ?_
      show sm_W _ _ _ _ _ 18 [.ref 72, .int v1, .int v2] [.int r2, .int v1] (sm_hp m)
      refine w_if_ne (tgt := 27) dX12_canNow_18 rfl (fun hc => ?_) (fun hc => ?_)
      · replace hf := sm_iff hc hf
        refine w_blk bX12_canNow_27 [.ref 72, .int v1, .int v2] [.int (0 : Int32), .int v1] (sm_hp m) [] rfl (sm_on) ?_
        refine w_blk bX12_canNow_28 [.ref 72, .int (v1 ||| (0 : Int32)), .int (v2 + (1 : Int32))] [] (sm_hp m) [] rfl (sm_on) ?_
        refine w_goto (tgt := 4) dX12_canNow_33 rfl ?_
        exact ih (v1 ||| (0 : Int32)) (v2 + (1 : Int32)) m r hf
      · replace hf := sm_ift hc hf
        refine w_blk bX12_canNow_21 [.ref 72, .int v1, .int v2] [.int ((1 : Int32) <<< (v2 &&& 31)), .int v1] (sm_hp m) [] rfl (sm_on) ?_
        refine w_goto (tgt := 28) dX12_canNow_24 rfl ?_
        refine w_blk bX12_canNow_28 [.ref 72, .int (v1 ||| ((1 : Int32) <<< (v2 &&& 31))), .int (v2 + (1 : Int32))] [] (sm_hp m) [] rfl (sm_on) ?_
        refine w_goto (tgt := 4) dX12_canNow_33 rfl ?_
        exact ih (v1 ||| ((1 : Int32) <<< (v2 &&& 31))) (v2 + (1 : Int32)) m r hf
set_option maxRecDepth 10000 in
theorem tX12_canNow {l : Launch} {al : Bool} (m : sm_S) (r : Int32) (hf : fX12_canNow m = some r) : sm_Rt l mX12_canNow 4 0 0 al al [.ref 72] (sm_hp m) (some (.int r), sm_hp m) := by
  refine sm_Rt.ofW (L := [.ref 72, .retAddr 0, .retAddr 0]) (by decide) (Nat.le_of_ble_eq_true rfl) rfl ?_
  unfold fX12_canNow at hf
  refine w_blk bX12_canNow_0 [.ref 72, .int (0 : Int32), .int (0 : Int32)] [] (sm_hp m) [] rfl (sm_on) ?_
  exact tX12_canNow_4 sm_fu (0 : Int32) (0 : Int32) m r hf
set_option maxRecDepth 10000 in
theorem tX12_can {l : Launch} {al : Bool} (m : sm_S) (r : Int32 × sm_S) (hf : fX12_can m = some r) : sm_Rt l mX12_can 5 0 0 al al [.ref 72] (sm_hp m) (some (.int r.1), sm_hp r.2) := by
  refine sm_Rt.ofW (L := [.ref 72]) (by decide) (Nat.le_of_ble_eq_true rfl) rfl ?_
  unfold fX12_can at hf
  refine w_blk bX12_can_0 [.ref 72] [.ref 72] (sm_hp (sm_w1 m 72 0 (0 : Int32))) [] rfl (sm_on) ?_
  replace hf := sm_bd hf
  obtain ⟨r2, q1, hf⟩ := hf
  refine w_callV [] [] (tX12_canNow (sm_w1 m 72 0 (0 : Int32)) r2 q1) (cvX12_214 rfl) dX12_can_6 rfl rfl (by decide) (by decide) rfl (Nat.le_of_ble_eq_true rfl) ?_
  show sm_W _ _ _ _ _ 9 [.ref 72] [.int r2] (sm_hp (sm_w1 m 72 0 (0 : Int32)))
  obtain rfl := Option.some.inj hf
  exact w_reti dX12_can_9 rfl rfl
set_option maxRecDepth 10000 in
theorem tX12_enters {l : Launch} {al : Bool} (x1 : Int32) (m : sm_S) (r : sm_S) (hf : fX12_enters x1 m = some r) : sm_Rt l mX12_enters 1 0 0 al al [.ref 72, .int x1] (sm_hp m) (none, sm_hp r) := by
  refine sm_Rt.ofW (L := [.ref 72, .int x1]) (by decide) (Nat.le_of_ble_eq_true rfl) rfl ?_
  unfold fX12_enters at hf
  replace hf := sm_ck hf
  obtain ⟨q1, hf⟩ := hf
  refine w_blk bX12_enters_0 [.ref 72, .int x1] [] (sm_hp (sm_w1 (sm_w1 m 73 (m.1 72 1).toNatClampNeg x1) 72 1 ((m.1 72 1) + (1 : Int32)))) [((m.1 72 1), 24)] rfl (sm_oc q1 (sm_on)) ?_
  obtain rfl := Option.some.inj hf
  exact w_retv dX12_enters_20 rfl
set_option maxRecDepth 10000 in
theorem tX12_tour_218 {l : Launch} {al : Bool} : ∀ (n : Nat) (v1 : Int32) (v4 : Int32) (v5 : Int32) (v6 : Int32) (v7 : Int32) (v10 : Int32) (m : sm_S) (r : Int32 × sm_S), fX12_tour_218 n v1 v4 v5 v6 v7 v10 m = some r → sm_W l mX12_tour 3 al (some (.int r.1), sm_hp r.2) 218 [.ref 72, .int v1, .retAddr 0, .retAddr 0, .int v4, .int v5, .int v6, .int v7, .retAddr 0, .retAddr 0, .int v10] [] (sm_hp m) := by
  intro n
  induction n with
  | zero =>
    intro v1 v4 v5 v6 v7 v10 m r hf
    unfold fX12_tour_218 at hf
    cases hf
  | succ n ih =>
    intro v1 v4 v5 v6 v7 v10 m r hf
    unfold fX12_tour_218 at hf
    refine w_blk bX12_tour_218 [.ref 72, .int v1, .retAddr 0, .retAddr 0, .int v4, .int v5, .int v6, .int v7, .retAddr 0, .retAddr 0, .int v10] [.int v5, .int v10] (sm_hp m) [] rfl (sm_on) ?_
    refine w_icmp_ge (tgt := 250) dX12_tour_222 rfl (fun hc => ?_) (fun hc => ?_)
    · replace hf := sm_ift hc hf
      refine w_blk bX12_tour_250 [.ref 72, .int v1, .retAddr 0, .retAddr 0, .int v4, .int v5, .int v6, .int v7, .retAddr 0, .retAddr 0, .int v10] [.int v4, .ref 72] (sm_hp (sm_w1 m 72 1 (0 : Int32))) [] rfl (sm_on) ?_
      replace hf := sm_bd hf
      obtain ⟨m12, q11, hf⟩ := hf
      refine w_callV [.int v4] [] (tX12_enters v4 (sm_w1 m 72 1 (0 : Int32)) m12 q11) (cvX12_229 rfl) dX12_tour_258 rfl rfl (by decide) (by decide) rfl (Nat.le_of_ble_eq_true rfl) ?_
      show sm_W _ _ _ _ _ 261 [.ref 72, .int v1, .retAddr 0, .retAddr 0, .int v4, .int v5, .int v6, .int v7, .retAddr 0, .retAddr 0, .int v10] [] (sm_hp m12)
      refine w_blk bX12_tour_261 [.ref 72, .int v1, .retAddr 0, .retAddr 0, .int v4, .int v5, .int v6, .int v7, .retAddr 0, .retAddr 0, .int v10] [.int v7, .ref 72] (sm_hp m12) [] rfl (sm_on) ?_
      replace hf := sm_bd hf
      obtain ⟨m14, q13, hf⟩ := hf
      refine w_callV [.int v7] [] (tX12_enters v7 m12 m14 q13) (cvX12_229 rfl) dX12_tour_264 rfl rfl (by decide) (by decide) rfl (Nat.le_of_ble_eq_true rfl) ?_
      show sm_W _ _ _ _ _ 267 [.ref 72, .int v1, .retAddr 0, .retAddr 0, .int v4, .int v5, .int v6, .int v7, .retAddr 0, .retAddr 0, .int v10] [] (sm_hp m14)
      refine w_blk bX12_tour_267 [.ref 72, .int v1, .retAddr 0, .retAddr 0, .int v4, .int v5, .int v6, .int v7, .retAddr 0, .retAddr 0, .int v10] [.int v6] (sm_hp m14) [] rfl (sm_on) ?_
      obtain rfl := Option.some.inj hf
      exact w_reti dX12_tour_269 rfl rfl
    · replace hf := sm_iff hc hf
      replace hf := sm_ck hf
      obtain ⟨q15, hf⟩ := hf
      replace hf := sm_ck hf
      obtain ⟨q16, hf⟩ := hf
      refine w_blk bX12_tour_225 [.ref 72, .int v1, .retAddr 0, .retAddr 0, .int v4, .int v5, .int v6, .int v7, .retAddr 0, .retAddr 0, .int (v10 + (1 : Int32))] [] (sm_hp (sm_w1 m 91 (((30 : Int32) * v1) + v10).toNatClampNeg (m.1 92 (v10).toNatClampNeg))) [(v10, 30), ((((30 : Int32) * v1) + v10), 60)] rfl (sm_oc q15 (sm_oc q16 (sm_on))) ?_
      refine w_goto (tgt := 218) dX12_tour_247 rfl ?_
      exact ih v1 v4 v5 v6 v7 (v10 + (1 : Int32)) (sm_w1 m 91 (((30 : Int32) * v1) + v10).toNatClampNeg (m.1 92 (v10).toNatClampNeg)) r hf
set_option maxRecDepth 10000 in
theorem tX12_tour_62 {l : Launch} {al : Bool} : ∀ (n : Nat) (v1 : Int32) (v2 : Int32) (v3 : Int32) (v4 : Int32) (v5 : Int32) (v6 : Int32) (v7 : Int32) (v8 : Int32) (m : sm_S) (r : Int32 × sm_S), fX12_tour_62 n v1 v2 v3 v4 v5 v6 v7 v8 m = some r → sm_W l mX12_tour 3 al (some (.int r.1), sm_hp r.2) 62 [.ref 72, .int v1, .int v2, .int v3, .int v4, .int v5, .int v6, .int v7, .int v8, .retAddr 0, .retAddr 0] [] (sm_hp m) := by
  intro n
  induction n with
  | zero =>
    intro v1 v2 v3 v4 v5 v6 v7 v8 m r hf
    unfold fX12_tour_62 at hf
    cases hf
  | succ n ih =>
    intro v1 v2 v3 v4 v5 v6 v7 v8 m r hf
    unfold fX12_tour_62 at hf
    refine w_blk bX12_tour_62 [.ref 72, .int v1, .int v2, .int v3, .int v4, .int v5, .int v6, .int v7, .int v8, .retAddr 0, .retAddr 0] [.int v8] (sm_hp m) [] rfl (sm_on) ?_
    refine w_if_eq (tgt := 181) dX12_tour_64 rfl (fun hc => ?_) (fun hc => ?_)
    · replace hf := sm_ift hc hf
      refine w_blk bX12_tour_181 [.ref 72, .int v1, .int v2, .int v3, .int v4, .int v5, .int v6, .int v7, .int v8, .retAddr 0, .retAddr 0] [.int v8, .int (30 : Int32), .int v2, .ref 72] (sm_hp m) [] rfl (sm_on) ?_
      replace hf := sm_bd hf
      obtain ⟨r8, q7, hf⟩ := hf
      refine w_callV [.int v2, .int (30 : Int32), .int v8] [] (tX12_faultOf v2 (30 : Int32) v8 m r8 q7) (cvX12_119 rfl) dX12_tour_187 rfl rfl (by decide) (by decide) rfl (Nat.le_of_ble_eq_true rfl) ?_
      show sm_W _ _ _ _ _ 190 [.ref 72, .int v1, .int v2, .int v3, .int v4, .int v5, .int v6, .int v7, .int v8, .retAddr 0, .retAddr 0] [.int r8] (sm_hp m)
      refine w_blk bX12_tour_190 [.ref 72, .int v1, .int v2, .int v3, .int v4, .int v5, .int v6, .int v7, .int v8, .int r8, .retAddr 0] [.int r8] (sm_hp m) [] rfl (sm_on) ?_
      refine w_if_ge (tgt := 200) dX12_tour_194 rfl (fun hc => ?_) (fun hc => ?_)
      · replace hf := sm_ift hc hf
        replace hf := sm_ck hf
        obtain ⟨q9, hf⟩ := hf
        replace hf := sm_ck hf
        obtain ⟨q10, hf⟩ := hf
        refine w_blk bX12_tour_200 [.ref 72, .int v1, .int v2, .int v3, .int v4, .int v5, .int v6, .int v7, .int v8, .int r8, .int (0 : Int32)] [] (sm_hp (sm_w1 (sm_w1 m 89 (v1).toNatClampNeg v3) 90 (v1).toNatClampNeg v5)) [(v1, 2), (v1, 2)] rfl (sm_oc q9 (sm_oc q10 (sm_on))) ?_
        refine w_wk [true, true, false, false, true, true, true, true, false, false, true] ?_
        exact tX12_tour_218 sm_fu v1 v4 v5 v6 v7 (0 : Int32) (sm_w1 (sm_w1 m 89 (v1).toNatClampNeg v3) 90 (v1).toNatClampNeg v5) r hf
      · replace hf := sm_iff hc hf
        refine w_blk bX12_tour_197 [.ref 72, .int v1, .int v2, .int v3, .int v4, .int v5, .int v6, .int v7, .int v8, .int r8, .retAddr 0] [.int r8] (sm_hp m) [] rfl (sm_on) ?_
        obtain rfl := Option.some.inj hf
        exact w_reti dX12_tour_199 rfl rfl
    · replace hf := sm_iff hc hf
      refine w_blk bX12_tour_67 [.ref 72, .int v1, .int v2, .int v3, .int v4, .int v5, .int v6, .int v7, .int v8, .retAddr 0, .retAddr 0] [.int (m.1 72 23), .int (m.1 72 22)] (sm_hp m) [] rfl (sm_on) ?_
      refine w_icmp_ge (tgt := 181) dX12_tour_75 rfl (fun hc => ?_) (fun hc => ?_)
      · replace hf := sm_ift hc hf
        refine w_blk bX12_tour_181 [.ref 72, .int v1, .int v2, .int v3, .int v4, .int v5, .int v6, .int v7, .int v8, .retAddr 0, .retAddr 0] [.int v8, .int (30 : Int32), .int v2, .ref 72] (sm_hp m) [] rfl (sm_on) ?_
        replace hf := sm_bd hf
        obtain ⟨r18, q17, hf⟩ := hf
        refine w_callV [.int v2, .int (30 : Int32), .int v8] [] (tX12_faultOf v2 (30 : Int32) v8 m r18 q17) (cvX12_119 rfl) dX12_tour_187 rfl rfl (by decide) (by decide) rfl (Nat.le_of_ble_eq_true rfl) ?_
        show sm_W _ _ _ _ _ 190 [.ref 72, .int v1, .int v2, .int v3, .int v4, .int v5, .int v6, .int v7, .int v8, .retAddr 0, .retAddr 0] [.int r18] (sm_hp m)
        refine w_blk bX12_tour_190 [.ref 72, .int v1, .int v2, .int v3, .int v4, .int v5, .int v6, .int v7, .int v8, .int r18, .retAddr 0] [.int r18] (sm_hp m) [] rfl (sm_on) ?_
        refine w_if_ge (tgt := 200) dX12_tour_194 rfl (fun hc => ?_) (fun hc => ?_)
        · replace hf := sm_ift hc hf
          replace hf := sm_ck hf
          obtain ⟨q19, hf⟩ := hf
          replace hf := sm_ck hf
          obtain ⟨q20, hf⟩ := hf
          refine w_blk bX12_tour_200 [.ref 72, .int v1, .int v2, .int v3, .int v4, .int v5, .int v6, .int v7, .int v8, .int r18, .int (0 : Int32)] [] (sm_hp (sm_w1 (sm_w1 m 89 (v1).toNatClampNeg v3) 90 (v1).toNatClampNeg v5)) [(v1, 2), (v1, 2)] rfl (sm_oc q19 (sm_oc q20 (sm_on))) ?_
          refine w_wk [true, true, false, false, true, true, true, true, false, false, true] ?_
          exact tX12_tour_218 sm_fu v1 v4 v5 v6 v7 (0 : Int32) (sm_w1 (sm_w1 m 89 (v1).toNatClampNeg v3) 90 (v1).toNatClampNeg v5) r hf
        · replace hf := sm_iff hc hf
          refine w_blk bX12_tour_197 [.ref 72, .int v1, .int v2, .int v3, .int v4, .int v5, .int v6, .int v7, .int v8, .int r18, .retAddr 0] [.int r18] (sm_hp m) [] rfl (sm_on) ?_
          obtain rfl := Option.some.inj hf
          exact w_reti dX12_tour_199 rfl rfl
      · replace hf := sm_iff hc hf
        replace hf := sm_ck hf
        obtain ⟨q21, hf⟩ := hf
        refine w_blk bX12_tour_78 [.ref 72, .int v1, .int v2, .int v3, .int v4, .int v5, .int v6, .int v7, .int v8, .int ((m.1 84 (m.1 72 22).toNatClampNeg) - (65 : Int32)), .retAddr 0] [.int ((m.1 84 (m.1 72 22).toNatClampNeg) - (65 : Int32)), .ref 72] (sm_hp m) [((m.1 72 22), 80)] rfl (sm_oc q21 (sm_on)) ?_
        replace hf := sm_bd hf
        obtain ⟨r23, q22, hf⟩ := hf
        refine w_callV [.int ((m.1 84 (m.1 72 22).toNatClampNeg) - (65 : Int32))] [] (tX12_isHedge ((m.1 84 (m.1 72 22).toNatClampNeg) - (65 : Int32)) m r23 q22) (cvX12_135 rfl) dX12_tour_95 rfl rfl (by decide) (by decide) rfl (Nat.le_of_ble_eq_true rfl) ?_
        show sm_W _ _ _ _ _ 98 [.ref 72, .int v1, .int v2, .int v3, .int v4, .int v5, .int v6, .int v7, .int v8, .int ((m.1 84 (m.1 72 22).toNatClampNeg) - (65 : Int32)), .retAddr 0] [.int r23] (sm_hp m)
        refine w_if_eq (tgt := 116) dX12_tour_98 rfl (fun hc => ?_) (fun hc => ?_)
        · replace hf := sm_ift hc hf
          refine w_blk bX12_tour_116 [.ref 72, .int v1, .int v2, .int v3, .int v4, .int v5, .int v6, .int v7, .int v8, .int ((m.1 84 (m.1 72 22).toNatClampNeg) - (65 : Int32)), .retAddr 0] [.int (0 : Int32)] (sm_hp m) [] rfl (sm_on) ?_
          refine w_blk bX12_tour_117 [.ref 72, .int v1, .int v2, .int v3, .int v4, .int v5, .int v6, .int v7, .int (0 : Int32), .int ((m.1 84 (m.1 72 22).toNatClampNeg) - (65 : Int32)), .retAddr 0] [.int (0 : Int32)] (sm_hp m) [] rfl (sm_on) ?_
          refine w_if_eq (tgt := 178) dX12_tour_121 rfl (fun _ => ?_) (fun hc => absurd hc (by decide))
          refine w_goto (tgt := 62) dX12_tour_178 rfl ?_
          refine w_wk [true, true, true, true, true, true, true, true, true, false, false] ?_
          exact ih v1 v2 v3 v4 v5 v6 v7 (0 : Int32) m r hf
        · replace hf := sm_iff hc hf
          refine w_blk bX12_tour_101 [.ref 72, .int v1, .int v2, .int v3, .int v4, .int v5, .int v6, .int v7, .int v8, .int ((m.1 84 (m.1 72 22).toNatClampNeg) - (65 : Int32)), .retAddr 0] [.int v4, .int ((m.1 84 (m.1 72 22).toNatClampNeg) - (65 : Int32)), .ref 72] (sm_hp m) [] rfl (sm_on) ?_
          replace hf := sm_bd hf
          obtain ⟨r25, q24, hf⟩ := hf
          refine w_callV [.int ((m.1 84 (m.1 72 22).toNatClampNeg) - (65 : Int32)), .int v4] [] (tX12_isEnd ((m.1 84 (m.1 72 22).toNatClampNeg) - (65 : Int32)) v4 m r25 q24) (cvX12_180 rfl) dX12_tour_106 rfl rfl (by decide) (by decide) rfl (Nat.le_of_ble_eq_true rfl) ?_
          show sm_W _ _ _ _ _ 109 [.ref 72, .int v1, .int v2, .int v3, .int v4, .int v5, .int v6, .int v7, .int v8, .int ((m.1 84 (m.1 72 22).toNatClampNeg) - (65 : Int32)), .retAddr 0] [.int r25] (sm_hp m)
          refine w_if_eq (tgt := 116) dX12_tour_109 rfl (fun hc => ?_) (fun hc => ?_)
          · replace hf := sm_ift hc hf
            refine w_blk bX12_tour_116 [.ref 72, .int v1, .int v2, .int v3, .int v4, .int v5, .int v6, .int v7, .int v8, .int ((m.1 84 (m.1 72 22).toNatClampNeg) - (65 : Int32)), .retAddr 0] [.int (0 : Int32)] (sm_hp m) [] rfl (sm_on) ?_
            refine w_blk bX12_tour_117 [.ref 72, .int v1, .int v2, .int v3, .int v4, .int v5, .int v6, .int v7, .int (0 : Int32), .int ((m.1 84 (m.1 72 22).toNatClampNeg) - (65 : Int32)), .retAddr 0] [.int (0 : Int32)] (sm_hp m) [] rfl (sm_on) ?_
            refine w_if_eq (tgt := 178) dX12_tour_121 rfl (fun _ => ?_) (fun hc => absurd hc (by decide))
            refine w_goto (tgt := 62) dX12_tour_178 rfl ?_
            refine w_wk [true, true, true, true, true, true, true, true, true, false, false] ?_
            exact ih v1 v2 v3 v4 v5 v6 v7 (0 : Int32) m r hf
          · replace hf := sm_iff hc hf
            refine w_blk bX12_tour_112 [.ref 72, .int v1, .int v2, .int v3, .int v4, .int v5, .int v6, .int v7, .int v8, .int ((m.1 84 (m.1 72 22).toNatClampNeg) - (65 : Int32)), .retAddr 0] [.int (1 : Int32)] (sm_hp m) [] rfl (sm_on) ?_
            refine w_goto (tgt := 117) dX12_tour_113 rfl ?_
            refine w_blk bX12_tour_117 [.ref 72, .int v1, .int v2, .int v3, .int v4, .int v5, .int v6, .int v7, .int (1 : Int32), .int ((m.1 84 (m.1 72 22).toNatClampNeg) - (65 : Int32)), .retAddr 0] [.int (1 : Int32)] (sm_hp m) [] rfl (sm_on) ?_
            refine w_if_eq (tgt := 178) dX12_tour_121 rfl (fun hc => absurd hc (by decide)) (fun _ => ?_)
            replace hf := sm_ck hf
            obtain ⟨q26, hf⟩ := hf
            refine w_blk bX12_tour_124 [.ref 72, .int v1, .int v2, .int v3, .int v4, .int (v5 + (1 : Int32)), .int v6, .int v7, .int (1 : Int32), .int ((m.1 84 (m.1 72 22).toNatClampNeg) - (65 : Int32)), .retAddr 0] [.int v4, .int ((m.1 84 (m.1 72 22).toNatClampNeg) - (65 : Int32)), .ref 72, .int v6] (sm_hp (sm_w1 m 92 (v5).toNatClampNeg ((m.1 84 (m.1 72 22).toNatClampNeg) - (65 : Int32)))) [(v5, 30)] rfl (sm_oc q26 (sm_on)) ?_
            replace hf := sm_bd hf
            obtain ⟨r28, q27, hf⟩ := hf
            refine w_callV [.int ((m.1 84 (m.1 72 22).toNatClampNeg) - (65 : Int32)), .int v4] [.int v6] (tX12_minutesFrom ((m.1 84 (m.1 72 22).toNatClampNeg) - (65 : Int32)) v4 (sm_w1 m 92 (v5).toNatClampNeg ((m.1 84 (m.1 72 22).toNatClampNeg) - (65 : Int32))) r28 q27) (cvX12_186 rfl) dX12_tour_143 rfl rfl (by decide) (by decide) rfl (Nat.le_of_ble_eq_true rfl) ?_
            show sm_W _ _ _ _ _ 146 [.ref 72, .int v1, .int v2, .int v3, .int v4, .int (v5 + (1 : Int32)), .int v6, .int v7, .int (1 : Int32), .int ((m.1 84 (m.1 72 22).toNatClampNeg) - (65 : Int32)), .retAddr 0] [.int r28, .int v6] (sm_hp (sm_w1 m 92 (v5).toNatClampNeg ((m.1 84 (m.1 72 22).toNatClampNeg) - (65 : Int32))))
            refine w_blk bX12_tour_146 [.ref 72, .int v1, .int v2, .int v3, .int v4, .int (v5 + (1 : Int32)), .int (v6 + r28), .int (v7 ||| ((1 : Int32) <<< (((m.1 84 (m.1 72 22).toNatClampNeg) - (65 : Int32)) &&& 31))), .int (1 : Int32), .int ((m.1 84 (m.1 72 22).toNatClampNeg) - (65 : Int32)), .retAddr 0] [.int v4, .int ((m.1 84 (m.1 72 22).toNatClampNeg) - (65 : Int32)), .ref 72] (sm_hp (sm_w1 m 92 (v5).toNatClampNeg ((m.1 84 (m.1 72 22).toNatClampNeg) - (65 : Int32)))) [] rfl (sm_on) ?_
            replace hf := sm_bd hf
            obtain ⟨r30, q29, hf⟩ := hf
            refine w_callV [.int ((m.1 84 (m.1 72 22).toNatClampNeg) - (65 : Int32)), .int v4] [] (tX12_endOf ((m.1 84 (m.1 72 22).toNatClampNeg) - (65 : Int32)) v4 (sm_w1 m 92 (v5).toNatClampNeg ((m.1 84 (m.1 72 22).toNatClampNeg) - (65 : Int32))) r30 q29) (cvX12_201 rfl) dX12_tour_163 rfl rfl (by decide) (by decide) rfl (Nat.le_of_ble_eq_true rfl) ?_
            show sm_W _ _ _ _ _ 166 [.ref 72, .int v1, .int v2, .int v3, .int v4, .int (v5 + (1 : Int32)), .int (v6 + r28), .int (v7 ||| ((1 : Int32) <<< (((m.1 84 (m.1 72 22).toNatClampNeg) - (65 : Int32)) &&& 31))), .int (1 : Int32), .int ((m.1 84 (m.1 72 22).toNatClampNeg) - (65 : Int32)), .retAddr 0] [.int r30] (sm_hp (sm_w1 m 92 (v5).toNatClampNeg ((m.1 84 (m.1 72 22).toNatClampNeg) - (65 : Int32))))
            refine w_blk bX12_tour_166 [.ref 72, .int v1, .int v2, .int v3, .int r30, .int (v5 + (1 : Int32)), .int (v6 + r28), .int (v7 ||| ((1 : Int32) <<< (((m.1 84 (m.1 72 22).toNatClampNeg) - (65 : Int32)) &&& 31))), .int (1 : Int32), .int ((m.1 84 (m.1 72 22).toNatClampNeg) - (65 : Int32)), .retAddr 0] [] (sm_hp (sm_w1 (sm_w1 m 92 (v5).toNatClampNeg ((m.1 84 (m.1 72 22).toNatClampNeg) - (65 : Int32))) 72 22 ((m.1 72 22) + (1 : Int32)))) [] rfl (sm_on) ?_
            refine w_goto (tgt := 62) dX12_tour_178 rfl ?_
            refine w_wk [true, true, true, true, true, true, true, true, true, false, false] ?_
            exact ih v1 v2 v3 r30 (v5 + (1 : Int32)) (v6 + r28) (v7 ||| ((1 : Int32) <<< (((m.1 84 (m.1 72 22).toNatClampNeg) - (65 : Int32)) &&& 31))) (1 : Int32) (sm_w1 (sm_w1 m 92 (v5).toNatClampNeg ((m.1 84 (m.1 72 22).toNatClampNeg) - (65 : Int32))) 72 22 ((m.1 72 22) + (1 : Int32))) r hf
set_option maxRecDepth 10000 in
theorem tX12_tour {l : Launch} {al : Bool} (x1 : Int32) (m : sm_S) (r : Int32 × sm_S) (hf : fX12_tour x1 m = some r) : sm_Rt l mX12_tour 3 0 0 al al [.ref 72, .int x1] (sm_hp m) (some (.int r.1), sm_hp r.2) := by
  refine sm_Rt.ofW (L := [.ref 72, .int x1, .retAddr 0, .retAddr 0, .retAddr 0, .retAddr 0, .retAddr 0, .retAddr 0, .retAddr 0, .retAddr 0, .retAddr 0]) (by decide) (Nat.le_of_ble_eq_true rfl) rfl ?_
  unfold fX12_tour at hf
  refine w_blk bX12_tour_0 [.ref 72, .int x1, .retAddr 0, .retAddr 0, .retAddr 0, .retAddr 0, .retAddr 0, .retAddr 0, .retAddr 0, .retAddr 0, .retAddr 0] [.int (30 : Int32), .ref 72] (sm_hp (sm_w1 m 72 0 (0 : Int32))) [] rfl (sm_on) ?_
  replace hf := sm_bd hf
  obtain ⟨r2, q1, hf⟩ := hf
  refine w_callV [.int (30 : Int32)] [] (tX12_begins (30 : Int32) (sm_w1 m 72 0 (0 : Int32)) r2 q1) (cvX12_107 rfl) dX12_tour_8 rfl rfl (by decide) (by decide) rfl (Nat.le_of_ble_eq_true rfl) ?_
  show sm_W _ _ _ _ _ 11 [.ref 72, .int x1, .retAddr 0, .retAddr 0, .retAddr 0, .retAddr 0, .retAddr 0, .retAddr 0, .retAddr 0, .retAddr 0, .retAddr 0] [.int r2.1] (sm_hp r2.2)
  refine w_blk bX12_tour_11 [.ref 72, .int x1, .int r2.1, .retAddr 0, .retAddr 0, .retAddr 0, .retAddr 0, .retAddr 0, .retAddr 0, .retAddr 0, .retAddr 0] [.long (1 : Int64), .long (0 : Int64), .long (x1).toInt64] (sm_hp r2.2) [] rfl (sm_on) ?_
  replace hf := sm_bd hf
  obtain ⟨r4, q3, hf⟩ := hf
  refine w_callS [.long (x1).toInt64, .long (0 : Int64), .long (1 : Int64)] [] (tX12_in (x1).toInt64 (0 : Int64) (1 : Int64) r2.2 r4 q3) (csX12_17 rfl) dX12_tour_16 rfl rfl (by decide) (by decide) (Nat.le_of_ble_eq_true rfl) ?_
  show sm_W _ _ _ _ _ 19 [.ref 72, .int x1, .int r2.1, .retAddr 0, .retAddr 0, .retAddr 0, .retAddr 0, .retAddr 0, .retAddr 0, .retAddr 0, .retAddr 0] [.int r4] (sm_hp r2.2)
  refine w_if_ne (tgt := 25) dX12_tour_19 rfl (fun hc => ?_) (fun hc => ?_)
  · replace hf := sm_iff hc hf
    refine w_blk bX12_tour_25 [.ref 72, .int x1, .int r2.1, .retAddr 0, .retAddr 0, .retAddr 0, .retAddr 0, .retAddr 0, .retAddr 0, .retAddr 0, .retAddr 0] [.int (-1 : Int32), .ref 72] (sm_hp (sm_w1 r2.2 72 24 (r2.2.1 72 3))) [] rfl (sm_on) ?_
    replace hf := sm_bd hf
    obtain ⟨r6, q5, hf⟩ := hf
    refine w_callV [.int (-1 : Int32)] [] (tX12_cornerBut (-1 : Int32) (sm_w1 r2.2 72 24 (r2.2.1 72 3)) r6 q5) (cvX12_77 rfl) dX12_tour_35 rfl rfl (by decide) (by decide) rfl (Nat.le_of_ble_eq_true rfl) ?_
    show sm_W _ _ _ _ _ 38 [.ref 72, .int x1, .int r2.1, .retAddr 0, .retAddr 0, .retAddr 0, .retAddr 0, .retAddr 0, .retAddr 0, .retAddr 0, .retAddr 0] [.int r6.1] (sm_hp r6.2)
    refine w_blk bX12_tour_38 [.ref 72, .int x1, .int r2.1, .int r6.1, .int r6.1, .int (0 : Int32), .int (0 : Int32), .int (0 : Int32), .retAddr 0, .retAddr 0, .retAddr 0] [.int r6.1] (sm_hp r6.2) [] rfl (sm_on) ?_
    refine w_if_lt (tgt := 59) dX12_tour_52 rfl (fun hc => ?_) (fun hc => ?_)
    · replace hf := sm_ift hc hf
      refine w_blk bX12_tour_59 [.ref 72, .int x1, .int r2.1, .int r6.1, .int r6.1, .int (0 : Int32), .int (0 : Int32), .int (0 : Int32), .retAddr 0, .retAddr 0, .retAddr 0] [.int (0 : Int32)] (sm_hp r6.2) [] rfl (sm_on) ?_
      refine w_blk bX12_tour_60 [.ref 72, .int x1, .int r2.1, .int r6.1, .int r6.1, .int (0 : Int32), .int (0 : Int32), .int (0 : Int32), .int (0 : Int32), .retAddr 0, .retAddr 0] [] (sm_hp r6.2) [] rfl (sm_on) ?_
      exact tX12_tour_62 sm_fu x1 r2.1 r6.1 r6.1 (0 : Int32) (0 : Int32) (0 : Int32) (0 : Int32) r6.2 r hf
    · replace hf := sm_iff hc hf
      refine w_blk bX12_tour_55 [.ref 72, .int x1, .int r2.1, .int r6.1, .int r6.1, .int (0 : Int32), .int (0 : Int32), .int (0 : Int32), .retAddr 0, .retAddr 0, .retAddr 0] [.int (1 : Int32)] (sm_hp r6.2) [] rfl (sm_on) ?_
      refine w_goto (tgt := 60) dX12_tour_56 rfl ?_
      refine w_blk bX12_tour_60 [.ref 72, .int x1, .int r2.1, .int r6.1, .int r6.1, .int (0 : Int32), .int (0 : Int32), .int (0 : Int32), .int (1 : Int32), .retAddr 0, .retAddr 0] [] (sm_hp r6.2) [] rfl (sm_on) ?_
      exact tX12_tour_62 sm_fu x1 r2.1 r6.1 r6.1 (0 : Int32) (0 : Int32) (0 : Int32) (1 : Int32) r6.2 r hf
  · replace hf := sm_ift hc hf
    refine w_blk bX12_tour_22 [.ref 72, .int x1, .int r2.1, .retAddr 0, .retAddr 0, .retAddr 0, .retAddr 0, .retAddr 0, .retAddr 0, .retAddr 0, .retAddr 0] [.int (-100 : Int32)] (sm_hp r2.2) [] rfl (sm_on) ?_
    obtain rfl := Option.some.inj hf
    exact w_reti dX12_tour_24 rfl rfl
set_option maxRecDepth 10000 in
theorem tX12_putsWalker_18 {l : Launch} {al : Bool} : ∀ (n : Nat) (v1 : Int32) (m : sm_S) (r : sm_S), fX12_putsWalker_18 n v1 m = some r → sm_W l mX12_putsWalker 1 al (none, sm_hp r) 18 [.ref 72, .int v1] [] (sm_hp m) := by
  intro n
  induction n with
  | zero =>
    intro v1 m r hf
    unfold fX12_putsWalker_18 at hf
    cases hf
  | succ n ih =>
    intro v1 m r hf
    unfold fX12_putsWalker_18 at hf
    refine w_blk bX12_putsWalker_18 [.ref 72, .int v1] [.int (14 : Int32), .int v1] (sm_hp m) [] rfl (sm_on) ?_
    refine w_icmp_ge (tgt := 42) dX12_putsWalker_21 rfl (fun hc => ?_) (fun hc => ?_)
    · replace hf := sm_ift hc hf
      obtain rfl := Option.some.inj hf
      exact w_retv dX12_putsWalker_42 rfl
    · replace hf := sm_iff hc hf
      replace hf := sm_ck hf
      obtain ⟨q1, hf⟩ := hf
      replace hf := sm_ck hf
      obtain ⟨q2, hf⟩ := hf
      refine w_blk bX12_putsWalker_24 [.ref 72, .int (v1 + (1 : Int32))] [] (sm_hp (sm_w1 m 93 (v1).toNatClampNeg (m.1 83 (v1).toNatClampNeg))) [(v1, 14), (v1, 14)] rfl (sm_oc q1 (sm_oc q2 (sm_on))) ?_
      refine w_goto (tgt := 18) dX12_putsWalker_39 rfl ?_
      exact ih (v1 + (1 : Int32)) (sm_w1 m 93 (v1).toNatClampNeg (m.1 83 (v1).toNatClampNeg)) r hf
set_option maxRecDepth 10000 in
theorem tX12_putsWalker {l : Launch} {al : Bool} (m : sm_S) (r : sm_S) (hf : fX12_putsWalker m = some r) : sm_Rt l mX12_putsWalker 1 0 0 al al [.ref 72] (sm_hp m) (none, sm_hp r) := by
  refine sm_Rt.ofW (L := [.ref 72, .retAddr 0]) (by decide) (Nat.le_of_ble_eq_true rfl) rfl ?_
  unfold fX12_putsWalker at hf
  refine w_blk bX12_putsWalker_0 [.ref 72, .int (0 : Int32)] [] (sm_hp (sm_w1 (sm_w1 m 72 36 (m.1 72 17)) 72 37 (m.1 72 18))) [] rfl (sm_on) ?_
  exact tX12_putsWalker_18 sm_fu (0 : Int32) (sm_w1 (sm_w1 m 72 36 (m.1 72 17)) 72 37 (m.1 72 18)) r hf
set_option maxRecDepth 10000 in
theorem tX12_putsBack_18 {l : Launch} {al : Bool} : ∀ (n : Nat) (v1 : Int32) (m : sm_S) (r : sm_S), fX12_putsBack_18 n v1 m = some r → sm_W l mX12_putsBack 1 al (none, sm_hp r) 18 [.ref 72, .int v1] [] (sm_hp m) := by
  intro n
  induction n with
  | zero =>
    intro v1 m r hf
    unfold fX12_putsBack_18 at hf
    cases hf
  | succ n ih =>
    intro v1 m r hf
    unfold fX12_putsBack_18 at hf
    refine w_blk bX12_putsBack_18 [.ref 72, .int v1] [.int (14 : Int32), .int v1] (sm_hp m) [] rfl (sm_on) ?_
    refine w_icmp_ge (tgt := 42) dX12_putsBack_21 rfl (fun hc => ?_) (fun hc => ?_)
    · replace hf := sm_ift hc hf
      obtain rfl := Option.some.inj hf
      exact w_retv dX12_putsBack_42 rfl
    · replace hf := sm_iff hc hf
      replace hf := sm_ck hf
      obtain ⟨q1, hf⟩ := hf
      replace hf := sm_ck hf
      obtain ⟨q2, hf⟩ := hf
      refine w_blk bX12_putsBack_24 [.ref 72, .int (v1 + (1 : Int32))] [] (sm_hp (sm_w1 m 83 (v1).toNatClampNeg (m.1 93 (v1).toNatClampNeg))) [(v1, 14), (v1, 14)] rfl (sm_oc q1 (sm_oc q2 (sm_on))) ?_
      refine w_goto (tgt := 18) dX12_putsBack_39 rfl ?_
      exact ih (v1 + (1 : Int32)) (sm_w1 m 83 (v1).toNatClampNeg (m.1 93 (v1).toNatClampNeg)) r hf
set_option maxRecDepth 10000 in
theorem tX12_putsBack {l : Launch} {al : Bool} (m : sm_S) (r : sm_S) (hf : fX12_putsBack m = some r) : sm_Rt l mX12_putsBack 1 0 0 al al [.ref 72] (sm_hp m) (none, sm_hp r) := by
  refine sm_Rt.ofW (L := [.ref 72, .retAddr 0]) (by decide) (Nat.le_of_ble_eq_true rfl) rfl ?_
  unfold fX12_putsBack at hf
  refine w_blk bX12_putsBack_0 [.ref 72, .int (0 : Int32)] [] (sm_hp (sm_w1 (sm_w1 m 72 17 (m.1 72 36)) 72 18 (m.1 72 37))) [] rfl (sm_on) ?_
  exact tX12_putsBack_18 sm_fu (0 : Int32) (sm_w1 (sm_w1 m 72 17 (m.1 72 36)) 72 18 (m.1 72 37)) r hf
set_option maxRecDepth 10000 in
theorem tX12_look_57 {l : Launch} {al : Bool} : ∀ (n : Nat) (v1 : Int32) (v2 : Int32) (v3 : Int32) (v4 : Int32) (v5 : Int32) (v6 : Int32) (m : sm_S) (r : Int32 × sm_S), fX12_look_57 n v1 v2 v3 v4 v5 v6 m = some r → sm_W l mX12_look 4 al (some (.int r.1), sm_hp r.2) 57 [.ref 72, .int v1, .int v2, .int v3, .int v4, .int v5, .int v6, .retAddr 0] [] (sm_hp m) := by
  intro n
  induction n with
  | zero =>
    intro v1 v2 v3 v4 v5 v6 m r hf
    unfold fX12_look_57 at hf
    cases hf
  | succ n ih =>
    intro v1 v2 v3 v4 v5 v6 m r hf
    unfold fX12_look_57 at hf
    replace hf := sm_ck hf
    obtain ⟨q7, hf⟩ := hf
    refine w_blk bX12_look_57 [.ref 72, .int v1, .int v2, .int v3, .int v4, .int v5, .int v6, .retAddr 0] [.int (m.1 90 (v1).toNatClampNeg), .int v6] (sm_hp m) [(v1, 2)] rfl (sm_oc q7 (sm_on)) ?_
    refine w_icmp_ge (tgt := 134) dX12_look_65 rfl (fun hc => ?_) (fun hc => ?_)
    · replace hf := sm_ift hc hf
      refine w_blk bX12_look_134 [.ref 72, .int v1, .int v2, .int v3, .int v4, .int v5, .int v6, .retAddr 0] [.ref 72] (sm_hp m) [] rfl (sm_on) ?_
      replace hf := sm_bd hf
      obtain ⟨m9, q8, hf⟩ := hf
      refine w_callV [] [] (tX12_putsBack m m9 q8) (cvX12_245 rfl) dX12_look_135 rfl rfl (by decide) (by decide) rfl (Nat.le_of_ble_eq_true rfl) ?_
      show sm_W _ _ _ _ _ 138 [.ref 72, .int v1, .int v2, .int v3, .int v4, .int v5, .int v6, .retAddr 0] [] (sm_hp m9)
      refine w_blk bX12_look_138 [.ref 72, .int v1, .int v2, .int v3, .int v4, .int v5, .int v6, .retAddr 0] [.int v3, .ref 72] (sm_hp (sm_w1 m9 72 1 (0 : Int32))) [] rfl (sm_on) ?_
      replace hf := sm_bd hf
      obtain ⟨m11, q10, hf⟩ := hf
      refine w_callV [.int v3] [] (tX12_enters v3 (sm_w1 m9 72 1 (0 : Int32)) m11 q10) (cvX12_229 rfl) dX12_look_145 rfl rfl (by decide) (by decide) rfl (Nat.le_of_ble_eq_true rfl) ?_
      show sm_W _ _ _ _ _ 148 [.ref 72, .int v1, .int v2, .int v3, .int v4, .int v5, .int v6, .retAddr 0] [] (sm_hp m11)
      refine w_blk bX12_look_148 [.ref 72, .int v1, .int v2, .int v3, .int v4, .int v5, .int v6, .retAddr 0] [.int v4, .ref 72] (sm_hp m11) [] rfl (sm_on) ?_
      replace hf := sm_bd hf
      obtain ⟨m13, q12, hf⟩ := hf
      refine w_callV [.int v4] [] (tX12_enters v4 m11 m13 q12) (cvX12_229 rfl) dX12_look_151 rfl rfl (by decide) (by decide) rfl (Nat.le_of_ble_eq_true rfl) ?_
      show sm_W _ _ _ _ _ 154 [.ref 72, .int v1, .int v2, .int v3, .int v4, .int v5, .int v6, .retAddr 0] [] (sm_hp m13)
      refine w_blk bX12_look_154 [.ref 72, .int v1, .int v2, .int v3, .int v4, .int v5, .int v6, .retAddr 0] [.int v5, .ref 72] (sm_hp m13) [] rfl (sm_on) ?_
      replace hf := sm_bd hf
      obtain ⟨m15, q14, hf⟩ := hf
      refine w_callV [.int v5] [] (tX12_enters v5 m13 m15 q14) (cvX12_229 rfl) dX12_look_157 rfl rfl (by decide) (by decide) rfl (Nat.le_of_ble_eq_true rfl) ?_
      show sm_W _ _ _ _ _ 160 [.ref 72, .int v1, .int v2, .int v3, .int v4, .int v5, .int v6, .retAddr 0] [] (sm_hp m15)
      refine w_blk bX12_look_160 [.ref 72, .int v1, .int v2, .int v3, .int v4, .int v5, .int v6, .retAddr 0] [.int v2] (sm_hp m15) [] rfl (sm_on) ?_
      obtain rfl := Option.some.inj hf
      exact w_reti dX12_look_161 rfl rfl
    · replace hf := sm_iff hc hf
      refine w_blk bX12_look_68 [.ref 72, .int v1, .int v2, .int v3, .int v4, .int v5, .int v6, .retAddr 0] [.int (-2 : Int32), .int v2] (sm_hp m) [] rfl (sm_on) ?_
      refine w_icmp_ne (tgt := 134) dX12_look_71 rfl (fun hc => ?_) (fun hc => ?_)
      · replace hf := sm_iff hc hf
        refine w_blk bX12_look_134 [.ref 72, .int v1, .int v2, .int v3, .int v4, .int v5, .int v6, .retAddr 0] [.ref 72] (sm_hp m) [] rfl (sm_on) ?_
        replace hf := sm_bd hf
        obtain ⟨m17, q16, hf⟩ := hf
        refine w_callV [] [] (tX12_putsBack m m17 q16) (cvX12_245 rfl) dX12_look_135 rfl rfl (by decide) (by decide) rfl (Nat.le_of_ble_eq_true rfl) ?_
        show sm_W _ _ _ _ _ 138 [.ref 72, .int v1, .int v2, .int v3, .int v4, .int v5, .int v6, .retAddr 0] [] (sm_hp m17)
        refine w_blk bX12_look_138 [.ref 72, .int v1, .int v2, .int v3, .int v4, .int v5, .int v6, .retAddr 0] [.int v3, .ref 72] (sm_hp (sm_w1 m17 72 1 (0 : Int32))) [] rfl (sm_on) ?_
        replace hf := sm_bd hf
        obtain ⟨m19, q18, hf⟩ := hf
        refine w_callV [.int v3] [] (tX12_enters v3 (sm_w1 m17 72 1 (0 : Int32)) m19 q18) (cvX12_229 rfl) dX12_look_145 rfl rfl (by decide) (by decide) rfl (Nat.le_of_ble_eq_true rfl) ?_
        show sm_W _ _ _ _ _ 148 [.ref 72, .int v1, .int v2, .int v3, .int v4, .int v5, .int v6, .retAddr 0] [] (sm_hp m19)
        refine w_blk bX12_look_148 [.ref 72, .int v1, .int v2, .int v3, .int v4, .int v5, .int v6, .retAddr 0] [.int v4, .ref 72] (sm_hp m19) [] rfl (sm_on) ?_
        replace hf := sm_bd hf
        obtain ⟨m21, q20, hf⟩ := hf
        refine w_callV [.int v4] [] (tX12_enters v4 m19 m21 q20) (cvX12_229 rfl) dX12_look_151 rfl rfl (by decide) (by decide) rfl (Nat.le_of_ble_eq_true rfl) ?_
        show sm_W _ _ _ _ _ 154 [.ref 72, .int v1, .int v2, .int v3, .int v4, .int v5, .int v6, .retAddr 0] [] (sm_hp m21)
        refine w_blk bX12_look_154 [.ref 72, .int v1, .int v2, .int v3, .int v4, .int v5, .int v6, .retAddr 0] [.int v5, .ref 72] (sm_hp m21) [] rfl (sm_on) ?_
        replace hf := sm_bd hf
        obtain ⟨m23, q22, hf⟩ := hf
        refine w_callV [.int v5] [] (tX12_enters v5 m21 m23 q22) (cvX12_229 rfl) dX12_look_157 rfl rfl (by decide) (by decide) rfl (Nat.le_of_ble_eq_true rfl) ?_
        show sm_W _ _ _ _ _ 160 [.ref 72, .int v1, .int v2, .int v3, .int v4, .int v5, .int v6, .retAddr 0] [] (sm_hp m23)
        refine w_blk bX12_look_160 [.ref 72, .int v1, .int v2, .int v3, .int v4, .int v5, .int v6, .retAddr 0] [.int v2] (sm_hp m23) [] rfl (sm_on) ?_
        obtain rfl := Option.some.inj hf
        exact w_reti dX12_look_161 rfl rfl
      · replace hf := sm_ift hc hf
        replace hf := sm_ck hf
        obtain ⟨q24, hf⟩ := hf
        refine w_blk bX12_look_74 [.ref 72, .int v1, .int v2, .int v3, .int v4, .int v5, .int v6, .int (m.1 91 (((30 : Int32) * v1) + v6).toNatClampNeg)] [.int (m.1 91 (((30 : Int32) * v1) + v6).toNatClampNeg), .ref 72] (sm_hp m) [((((30 : Int32) * v1) + v6), 60)] rfl (sm_oc q24 (sm_on)) ?_
        replace hf := sm_bd hf
        obtain ⟨r26, q25, hf⟩ := hf
        refine w_callV [.int (m.1 91 (((30 : Int32) * v1) + v6).toNatClampNeg)] [] (tX12_whyNot (m.1 91 (((30 : Int32) * v1) + v6).toNatClampNeg) m r26 q25) (cvX12_204 rfl) dX12_look_91 rfl rfl (by decide) (by decide) rfl (Nat.le_of_ble_eq_true rfl) ?_
        show sm_W _ _ _ _ _ 94 [.ref 72, .int v1, .int v2, .int v3, .int v4, .int v5, .int v6, .int (m.1 91 (((30 : Int32) * v1) + v6).toNatClampNeg)] [.int r26] (sm_hp m)
        refine w_blk bX12_look_94 [.ref 72, .int v1, .int v2, .int r26, .int v4, .int v5, .int v6, .int (m.1 91 (((30 : Int32) * v1) + v6).toNatClampNeg)] [.int r26] (sm_hp m) [] rfl (sm_on) ?_
        refine w_if_ge (tgt := 105) dX12_look_96 rfl (fun hc => ?_) (fun hc => ?_)
        · replace hf := sm_ift hc hf
          refine w_blk bX12_look_105 [.ref 72, .int v1, .int v2, .int r26, .int v4, .int v5, .int v6, .int (m.1 91 (((30 : Int32) * v1) + v6).toNatClampNeg)] [.int (m.1 91 (((30 : Int32) * v1) + v6).toNatClampNeg), .ref 72, .int v4] (sm_hp m) [] rfl (sm_on) ?_
          replace hf := sm_bd hf
          obtain ⟨r28, q27, hf⟩ := hf
          refine w_callV [.int (m.1 91 (((30 : Int32) * v1) + v6).toNatClampNeg)] [.int v4] (tX12_walks (m.1 91 (((30 : Int32) * v1) + v6).toNatClampNeg) m r28 q27) (cvX12_211 rfl) dX12_look_110 rfl rfl (by decide) (by decide) rfl (Nat.le_of_ble_eq_true rfl) ?_
          show sm_W _ _ _ _ _ 113 [.ref 72, .int v1, .int v2, .int r26, .int v4, .int v5, .int v6, .int (m.1 91 (((30 : Int32) * v1) + v6).toNatClampNeg)] [.int r28.1, .int v4] (sm_hp r28.2)
          replace hf := sm_ck hf
          obtain ⟨q29, hf⟩ := hf
          refine w_blk bX12_look_113 [.ref 72, .int v1, .int v2, .int r26, .int (v4 + r28.1), .int (v5 + (r28.2.1 81 (m.1 91 (((30 : Int32) * v1) + v6).toNatClampNeg).toNatClampNeg)), .int v6, .int (m.1 91 (((30 : Int32) * v1) + v6).toNatClampNeg)] [] (sm_hp r28.2) [((m.1 91 (((30 : Int32) * v1) + v6).toNatClampNeg), 14)] rfl (sm_oc q29 (sm_on)) ?_
          refine w_blk bX12_look_128 [.ref 72, .int v1, .int v2, .int r26, .int (v4 + r28.1), .int (v5 + (r28.2.1 81 (m.1 91 (((30 : Int32) * v1) + v6).toNatClampNeg).toNatClampNeg)), .int (v6 + (1 : Int32)), .int (m.1 91 (((30 : Int32) * v1) + v6).toNatClampNeg)] [] (sm_hp r28.2) [] rfl (sm_on) ?_
          refine w_goto (tgt := 57) dX12_look_131 rfl ?_
          refine w_wk [true, true, true, true, true, true, true, false] ?_
          exact ih v1 v2 r26 (v4 + r28.1) (v5 + (r28.2.1 81 (m.1 91 (((30 : Int32) * v1) + v6).toNatClampNeg).toNatClampNeg)) (v6 + (1 : Int32)) r28.2 r hf
        · replace hf := sm_iff hc hf
          refine w_blk bX12_look_99 [.ref 72, .int v1, .int v6, .int r26, .int v4, .int v5, .int v6, .int (m.1 91 (((30 : Int32) * v1) + v6).toNatClampNeg)] [] (sm_hp m) [] rfl (sm_on) ?_
          refine w_goto (tgt := 128) dX12_look_102 rfl ?_
          refine w_blk bX12_look_128 [.ref 72, .int v1, .int v6, .int r26, .int v4, .int v5, .int (v6 + (1 : Int32)), .int (m.1 91 (((30 : Int32) * v1) + v6).toNatClampNeg)] [] (sm_hp m) [] rfl (sm_on) ?_
          refine w_goto (tgt := 57) dX12_look_131 rfl ?_
          refine w_wk [true, true, true, true, true, true, true, false] ?_
          exact ih v1 v6 r26 v4 v5 (v6 + (1 : Int32)) m r hf
set_option maxRecDepth 10000 in
theorem tX12_look {l : Launch} {al : Bool} (x1 : Int32) (m : sm_S) (r : Int32 × sm_S) (hf : fX12_look x1 m = some r) : sm_Rt l mX12_look 4 0 0 al al [.ref 72, .int x1] (sm_hp m) (some (.int r.1), sm_hp r.2) := by
  refine sm_Rt.ofW (L := [.ref 72, .int x1, .retAddr 0, .retAddr 0, .retAddr 0, .retAddr 0, .retAddr 0, .retAddr 0]) (by decide) (Nat.le_of_ble_eq_true rfl) rfl ?_
  unfold fX12_look at hf
  refine w_blk bX12_look_0 [.ref 72, .int x1, .retAddr 0, .retAddr 0, .retAddr 0, .retAddr 0, .retAddr 0, .retAddr 0] [.long (1 : Int64), .long (0 : Int64), .long (x1).toInt64] (sm_hp (sm_w1 m 72 0 (0 : Int32))) [] rfl (sm_on) ?_
  replace hf := sm_bd hf
  obtain ⟨r2, q1, hf⟩ := hf
  refine w_callS [.long (x1).toInt64, .long (0 : Int64), .long (1 : Int64)] [] (tX12_in (x1).toInt64 (0 : Int64) (1 : Int64) (sm_w1 m 72 0 (0 : Int32)) r2 q1) (csX12_17 rfl) dX12_look_9 rfl rfl (by decide) (by decide) (Nat.le_of_ble_eq_true rfl) ?_
  show sm_W _ _ _ _ _ 12 [.ref 72, .int x1, .retAddr 0, .retAddr 0, .retAddr 0, .retAddr 0, .retAddr 0, .retAddr 0] [.int r2] (sm_hp (sm_w1 m 72 0 (0 : Int32)))
  refine w_if_ne (tgt := 17) dX12_look_12 rfl (fun hc => ?_) (fun hc => ?_)
  · replace hf := sm_iff hc hf
    replace hf := sm_ck hf
    obtain ⟨q3, hf⟩ := hf
    refine w_blk bX12_look_17 [.ref 72, .int x1, .retAddr 0, .retAddr 0, .retAddr 0, .retAddr 0, .retAddr 0, .retAddr 0] [.int (m.1 89 (x1).toNatClampNeg)] (sm_hp (sm_w1 m 72 0 (0 : Int32))) [(x1, 2)] rfl (sm_oc q3 (sm_on)) ?_
    refine w_if_ge (tgt := 29) dX12_look_23 rfl (fun hc => ?_) (fun hc => ?_)
    · replace hf := sm_ift hc hf
      refine w_blk bX12_look_29 [.ref 72, .int x1, .retAddr 0, .retAddr 0, .retAddr 0, .retAddr 0, .retAddr 0, .retAddr 0] [.ref 72] (sm_hp (sm_w1 m 72 0 (0 : Int32))) [] rfl (sm_on) ?_
      replace hf := sm_bd hf
      obtain ⟨m5, q4, hf⟩ := hf
      refine w_callV [] [] (tX12_putsWalker (sm_w1 m 72 0 (0 : Int32)) m5 q4) (cvX12_241 rfl) dX12_look_30 rfl rfl (by decide) (by decide) rfl (Nat.le_of_ble_eq_true rfl) ?_
      show sm_W _ _ _ _ _ 33 [.ref 72, .int x1, .retAddr 0, .retAddr 0, .retAddr 0, .retAddr 0, .retAddr 0, .retAddr 0] [] (sm_hp m5)
      replace hf := sm_ck hf
      obtain ⟨q6, hf⟩ := hf
      refine w_blk bX12_look_33 [.ref 72, .int x1, .int (-2 : Int32), .int (0 : Int32), .int (0 : Int32), .int (0 : Int32), .int (0 : Int32), .retAddr 0] [] (sm_hp (sm_w1 m5 72 17 (m5.1 89 (x1).toNatClampNeg))) [(x1, 2)] rfl (sm_oc q6 (sm_on)) ?_
      exact tX12_look_57 sm_fu x1 (-2 : Int32) (0 : Int32) (0 : Int32) (0 : Int32) (0 : Int32) (sm_w1 m5 72 17 (m5.1 89 (x1).toNatClampNeg)) r hf
    · replace hf := sm_iff hc hf
      refine w_blk bX12_look_26 [.ref 72, .int x1, .retAddr 0, .retAddr 0, .retAddr 0, .retAddr 0, .retAddr 0, .retAddr 0] [.int (-3 : Int32)] (sm_hp (sm_w1 m 72 0 (0 : Int32))) [] rfl (sm_on) ?_
      obtain rfl := Option.some.inj hf
      exact w_reti dX12_look_28 rfl rfl
  · replace hf := sm_ift hc hf
    refine w_blk bX12_look_15 [.ref 72, .int x1, .retAddr 0, .retAddr 0, .retAddr 0, .retAddr 0, .retAddr 0, .retAddr 0] [.int (-1 : Int32)] (sm_hp (sm_w1 m 72 0 (0 : Int32))) [] rfl (sm_on) ?_
    obtain rfl := Option.some.inj hf
    exact w_reti dX12_look_16 rfl rfl
set_option maxRecDepth 10000 in
theorem tX12_cornerOf_28 {l : Launch} {al : Bool} : ∀ (n : Nat) (v1 : Int32) (v3 : Int32) (v4 : Int32) (v5 : Int32) (v6 : Int32) (v7 : Int32) (m : sm_S) (r : Int32 × sm_S), fX12_cornerOf_28 n v1 v3 v4 v5 v6 v7 m = some r → sm_W l mX12_cornerOf 2 al (some (.int r.1), sm_hp r.2) 28 [.ref 72, .int v1, .retAddr 0, .int v3, .int v4, .int v5, .int v6, .int v7, .retAddr 0] [] (sm_hp m) := by
  intro n
  induction n with
  | zero =>
    intro v1 v3 v4 v5 v6 v7 m r hf
    unfold fX12_cornerOf_28 at hf
    cases hf
  | succ n ih =>
    intro v1 v3 v4 v5 v6 v7 m r hf
    unfold fX12_cornerOf_28 at hf
    replace hf := sm_ck hf
    obtain ⟨q2, hf⟩ := hf
    refine w_blk bX12_cornerOf_28 [.ref 72, .int v1, .retAddr 0, .int v3, .int v4, .int v5, .int v6, .int v7, .retAddr 0] [.int (m.1 90 (v1).toNatClampNeg), .int v7] (sm_hp m) [(v1, 2)] rfl (sm_oc q2 (sm_on)) ?_
    refine w_icmp_ge (tgt := 97) dX12_cornerOf_36 rfl (fun hc => ?_) (fun hc => ?_)
    · replace hf := sm_ift hc hf
      refine w_blk bX12_cornerOf_97 [.ref 72, .int v1, .retAddr 0, .int v3, .int v4, .int v5, .int v6, .int v7, .retAddr 0] [.int v5, .int v3] (sm_hp (sm_w1 m 72 39 v5)) [] rfl (sm_on) ?_
      refine w_icmp_lt (tgt := 114) dX12_cornerOf_106 rfl (fun hc => ?_) (fun hc => ?_)
      · replace hf := sm_ift hc hf
        refine w_blk bX12_cornerOf_114 [.ref 72, .int v1, .retAddr 0, .int v3, .int v4, .int v5, .int v6, .int v7, .retAddr 0] [.int v6] (sm_hp (sm_w1 m 72 39 v5)) [] rfl (sm_on) ?_
        obtain rfl := Option.some.inj hf
        exact w_reti dX12_cornerOf_116 rfl rfl
      · replace hf := sm_iff hc hf
        refine w_blk bX12_cornerOf_109 [.ref 72, .int v1, .retAddr 0, .int v3, .int v4, .int v5, .int v6, .int v7, .retAddr 0] [.int v4] (sm_hp (sm_w1 m 72 39 v5)) [] rfl (sm_on) ?_
        refine w_goto (tgt := 116) dX12_cornerOf_111 rfl ?_
        obtain rfl := Option.some.inj hf
        exact w_reti dX12_cornerOf_116 rfl rfl
    · replace hf := sm_iff hc hf
      replace hf := sm_ck hf
      obtain ⟨q3, hf⟩ := hf
      refine w_blk bX12_cornerOf_39 [.ref 72, .int v1, .retAddr 0, .int v3, .int v4, .int v5, .int v6, .int v7, .int (m.1 91 (((30 : Int32) * v1) + v7).toNatClampNeg)] [.int v4, .int (m.1 91 (((30 : Int32) * v1) + v7).toNatClampNeg), .ref 72, .int v5] (sm_hp m) [((((30 : Int32) * v1) + v7), 60)] rfl (sm_oc q3 (sm_on)) ?_
      replace hf := sm_bd hf
      obtain ⟨r5, q4, hf⟩ := hf
      refine w_callV [.int (m.1 91 (((30 : Int32) * v1) + v7).toNatClampNeg), .int v4] [.int v5] (tX12_minutesFrom (m.1 91 (((30 : Int32) * v1) + v7).toNatClampNeg) v4 m r5 q4) (cvX12_186 rfl) dX12_cornerOf_60 rfl rfl (by decide) (by decide) rfl (Nat.le_of_ble_eq_true rfl) ?_
      show sm_W _ _ _ _ _ 63 [.ref 72, .int v1, .retAddr 0, .int v3, .int v4, .int v5, .int v6, .int v7, .int (m.1 91 (((30 : Int32) * v1) + v7).toNatClampNeg)] [.int r5, .int v5] (sm_hp m)
      refine w_blk bX12_cornerOf_63 [.ref 72, .int v1, .retAddr 0, .int v3, .int v4, .int (v5 + r5), .int v6, .int v7, .int (m.1 91 (((30 : Int32) * v1) + v7).toNatClampNeg)] [.int v4, .int (m.1 91 (((30 : Int32) * v1) + v7).toNatClampNeg), .ref 72] (sm_hp m) [] rfl (sm_on) ?_
      replace hf := sm_bd hf
      obtain ⟨r7, q6, hf⟩ := hf
      refine w_callV [.int (m.1 91 (((30 : Int32) * v1) + v7).toNatClampNeg), .int v4] [] (tX12_endOf (m.1 91 (((30 : Int32) * v1) + v7).toNatClampNeg) v4 m r7 q6) (cvX12_201 rfl) dX12_cornerOf_71 rfl rfl (by decide) (by decide) rfl (Nat.le_of_ble_eq_true rfl) ?_
      show sm_W _ _ _ _ _ 74 [.ref 72, .int v1, .retAddr 0, .int v3, .int v4, .int (v5 + r5), .int v6, .int v7, .int (m.1 91 (((30 : Int32) * v1) + v7).toNatClampNeg)] [.int r7] (sm_hp m)
      refine w_blk bX12_cornerOf_74 [.ref 72, .int v1, .retAddr 0, .int v3, .int r7, .int (v5 + r5), .int v6, .int v7, .int (m.1 91 (((30 : Int32) * v1) + v7).toNatClampNeg)] [.int (v5 + r5), .int v3] (sm_hp m) [] rfl (sm_on) ?_
      refine w_icmp_ne (tgt := 87) dX12_cornerOf_79 rfl (fun hc => ?_) (fun hc => ?_)
      · replace hf := sm_iff hc hf
        refine w_blk bX12_cornerOf_87 [.ref 72, .int v1, .retAddr 0, .int v3, .int r7, .int (v5 + r5), .int v6, .int v7, .int (m.1 91 (((30 : Int32) * v1) + v7).toNatClampNeg)] [.int v6] (sm_hp m) [] rfl (sm_on) ?_
        refine w_blk bX12_cornerOf_89 [.ref 72, .int v1, .retAddr 0, .int v3, .int r7, .int (v5 + r5), .int v6, .int (v7 + (1 : Int32)), .int (m.1 91 (((30 : Int32) * v1) + v7).toNatClampNeg)] [] (sm_hp m) [] rfl (sm_on) ?_
        refine w_goto (tgt := 28) dX12_cornerOf_94 rfl ?_
        refine w_wk [true, true, false, true, true, true, true, true, false] ?_
        exact ih v1 v3 r7 (v5 + r5) v6 (v7 + (1 : Int32)) m r hf
      · replace hf := sm_ift hc hf
        refine w_blk bX12_cornerOf_82 [.ref 72, .int v1, .retAddr 0, .int v3, .int r7, .int (v5 + r5), .int v6, .int v7, .int (m.1 91 (((30 : Int32) * v1) + v7).toNatClampNeg)] [.int r7] (sm_hp m) [] rfl (sm_on) ?_
        refine w_goto (tgt := 89) dX12_cornerOf_84 rfl ?_
        refine w_blk bX12_cornerOf_89 [.ref 72, .int v1, .retAddr 0, .int v3, .int r7, .int (v5 + r5), .int r7, .int (v7 + (1 : Int32)), .int (m.1 91 (((30 : Int32) * v1) + v7).toNatClampNeg)] [] (sm_hp m) [] rfl (sm_on) ?_
        refine w_goto (tgt := 28) dX12_cornerOf_94 rfl ?_
        refine w_wk [true, true, false, true, true, true, true, true, false] ?_
        exact ih v1 v3 r7 (v5 + r5) r7 (v7 + (1 : Int32)) m r hf
set_option maxRecDepth 10000 in
theorem tX12_cornerOf {l : Launch} {al : Bool} (x1 : Int32) (x2 : Int32) (x3 : Int32) (m : sm_S) (r : Int32 × sm_S) (hf : fX12_cornerOf x1 x2 x3 m = some r) : sm_Rt l mX12_cornerOf 2 0 0 al al [.ref 72, .int x1, .int x2, .int x3] (sm_hp m) (some (.int r.1), sm_hp r.2) := by
  refine sm_Rt.ofW (L := [.ref 72, .int x1, .int x2, .int x3, .retAddr 0, .retAddr 0, .retAddr 0, .retAddr 0, .retAddr 0]) (by decide) (Nat.le_of_ble_eq_true rfl) rfl ?_
  unfold fX12_cornerOf at hf
  replace hf := sm_ck hf
  obtain ⟨q1, hf⟩ := hf
  refine w_blk bX12_cornerOf_0 [.ref 72, .int x1, .int x2, .int x3, .int (m.1 89 (x1).toNatClampNeg), .int x2, .retAddr 0, .retAddr 0, .retAddr 0] [.int x2, .int x3] (sm_hp m) [(x1, 2)] rfl (sm_oc q1 (sm_on)) ?_
  refine w_icmp_gt (tgt := 22) dX12_cornerOf_14 rfl (fun hc => ?_) (fun hc => ?_)
  · replace hf := sm_ift hc hf
    refine w_blk bX12_cornerOf_22 [.ref 72, .int x1, .int x2, .int x3, .int (m.1 89 (x1).toNatClampNeg), .int x2, .retAddr 0, .retAddr 0, .retAddr 0] [.int (-1 : Int32)] (sm_hp m) [] rfl (sm_on) ?_
    refine w_blk bX12_cornerOf_23 [.ref 72, .int x1, .int x2, .int x3, .int (m.1 89 (x1).toNatClampNeg), .int x2, .int (-1 : Int32), .int (0 : Int32), .retAddr 0] [] (sm_hp m) [] rfl (sm_on) ?_
    refine w_wk [true, true, false, true, true, true, true, true, false] ?_
    exact tX12_cornerOf_28 sm_fu x1 x3 (m.1 89 (x1).toNatClampNeg) x2 (-1 : Int32) (0 : Int32) m r hf
  · replace hf := sm_iff hc hf
    refine w_blk bX12_cornerOf_17 [.ref 72, .int x1, .int x2, .int x3, .int (m.1 89 (x1).toNatClampNeg), .int x2, .retAddr 0, .retAddr 0, .retAddr 0] [.int (m.1 89 (x1).toNatClampNeg)] (sm_hp m) [] rfl (sm_on) ?_
    refine w_goto (tgt := 23) dX12_cornerOf_19 rfl ?_
    refine w_blk bX12_cornerOf_23 [.ref 72, .int x1, .int x2, .int x3, .int (m.1 89 (x1).toNatClampNeg), .int x2, .int (m.1 89 (x1).toNatClampNeg), .int (0 : Int32), .retAddr 0] [] (sm_hp m) [] rfl (sm_on) ?_
    refine w_wk [true, true, false, true, true, true, true, true, false] ?_
    exact tX12_cornerOf_28 sm_fu x1 x3 (m.1 89 (x1).toNatClampNeg) x2 (m.1 89 (x1).toNatClampNeg) (0 : Int32) m r hf
set_option maxRecDepth 10000 in
theorem tX12_meetsBy_32 {l : Launch} {al : Bool} : ∀ (n : Nat) (v1 : Int32) (v2 : Int32) (v3 : Int32) (m : sm_S) (r : Int32 × sm_S), fX12_meetsBy_32 n v1 v2 v3 m = some r → sm_W l mX12_meetsBy 3 al (some (.int r.1), sm_hp r.2) 32 [.ref 72, .int v1, .int v2, .int v3, .retAddr 0] [] (sm_hp m) := by
  intro n
  induction n with
  | zero =>
    intro v1 v2 v3 m r hf
    unfold fX12_meetsBy_32 at hf
    cases hf
  | succ n ih =>
    intro v1 v2 v3 m r hf
    unfold fX12_meetsBy_32 at hf
    refine w_blk bX12_meetsBy_32 [.ref 72, .int v1, .int v2, .int v3, .retAddr 0] [.int v2, .int v3] (sm_hp m) [] rfl (sm_on) ?_
    refine w_icmp_gt (tgt := 71) dX12_meetsBy_34 rfl (fun hc => ?_) (fun hc => ?_)
    · replace hf := sm_ift hc hf
      refine w_blk bX12_meetsBy_71 [.ref 72, .int v1, .int v2, .int v3, .retAddr 0] [.int (-2 : Int32)] (sm_hp m) [] rfl (sm_on) ?_
      obtain rfl := Option.some.inj hf
      exact w_reti dX12_meetsBy_73 rfl rfl
    · replace hf := sm_iff hc hf
      refine w_blk bX12_meetsBy_37 [.ref 72, .int v1, .int v2, .int v3, .retAddr 0] [.int v3, .int (0 : Int32), .int (0 : Int32), .ref 72] (sm_hp m) [] rfl (sm_on) ?_
      replace hf := sm_bd hf
      obtain ⟨r6, q5, hf⟩ := hf
      refine w_callV [.int (0 : Int32), .int (0 : Int32), .int v3] [] (tX12_cornerOf (0 : Int32) (0 : Int32) v3 m r6 q5) (cvX12_251 rfl) dX12_meetsBy_41 rfl rfl (by decide) (by decide) rfl (Nat.le_of_ble_eq_true rfl) ?_
      show sm_W _ _ _ _ _ 44 [.ref 72, .int v1, .int v2, .int v3, .retAddr 0] [.int r6.1] (sm_hp r6.2)
      refine w_blk bX12_meetsBy_44 [.ref 72, .int v1, .int v2, .int v3, .int r6.1] [.int r6.1] (sm_hp r6.2) [] rfl (sm_on) ?_
      refine w_if_lt (tgt := 65) dX12_meetsBy_48 rfl (fun hc => ?_) (fun hc => ?_)
      · replace hf := sm_ift hc hf
        refine w_blk bX12_meetsBy_65 [.ref 72, .int v1, .int v2, .int (v3 + (1 : Int32)), .int r6.1] [] (sm_hp r6.2) [] rfl (sm_on) ?_
        refine w_goto (tgt := 32) dX12_meetsBy_68 rfl ?_
        refine w_wk [true, true, true, true, false] ?_
        exact ih v1 v2 (v3 + (1 : Int32)) r6.2 r hf
      · replace hf := sm_iff hc hf
        refine w_blk bX12_meetsBy_51 [.ref 72, .int v1, .int v2, .int v3, .int r6.1] [.int v3, .int v1, .int (1 : Int32), .ref 72, .int r6.1] (sm_hp r6.2) [] rfl (sm_on) ?_
        replace hf := sm_bd hf
        obtain ⟨r8, q7, hf⟩ := hf
        refine w_callV [.int (1 : Int32), .int v1, .int v3] [.int r6.1] (tX12_cornerOf (1 : Int32) v1 v3 r6.2 r8 q7) (cvX12_251 rfl) dX12_meetsBy_57 rfl rfl (by decide) (by decide) rfl (Nat.le_of_ble_eq_true rfl) ?_
        show sm_W _ _ _ _ _ 60 [.ref 72, .int v1, .int v2, .int v3, .int r6.1] [.int r8.1, .int r6.1] (sm_hp r8.2)
        refine w_icmp_ne (tgt := 65) dX12_meetsBy_60 rfl (fun hc => ?_) (fun hc => ?_)
        · replace hf := sm_iff hc hf
          refine w_blk bX12_meetsBy_65 [.ref 72, .int v1, .int v2, .int (v3 + (1 : Int32)), .int r6.1] [] (sm_hp r8.2) [] rfl (sm_on) ?_
          refine w_goto (tgt := 32) dX12_meetsBy_68 rfl ?_
          refine w_wk [true, true, true, true, false] ?_
          exact ih v1 v2 (v3 + (1 : Int32)) r8.2 r hf
        · replace hf := sm_ift hc hf
          refine w_blk bX12_meetsBy_63 [.ref 72, .int v1, .int v2, .int v3, .int r6.1] [.int v3] (sm_hp r8.2) [] rfl (sm_on) ?_
          obtain rfl := Option.some.inj hf
          exact w_reti dX12_meetsBy_64 rfl rfl
