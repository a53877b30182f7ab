set_option maxRecDepth 10000 in
theorem tX3_at {l : Launch} {al : Bool} (x1 : Int32) (m : sm_S) (r : Int32) (hf : fX3_at x1 m = some r) : sm_Rt l mX3_at 1 0 0 al al [.ref 29, .int x1] (sm_hp m) (some (.int r), sm_hp m) := by
  refine sm_Rt.ofW (L := [.ref 29, .int x1]) (by decide) (Nat.le_of_ble_eq_true rfl) rfl ?_
  unfold fX3_at at hf
  refine w_blk bX3_at_0 [.ref 29, .int x1] [.int x1] (sm_hp m) [] rfl (sm_on) ?_
  refine w_if_lt (tgt := 12) dX3_at_1 rfl (fun hc => ?_) (fun hc => ?_)
  · replace hf := sm_ift hc hf
    refine w_blk bX3_at_12 [.ref 29, .int x1] [.int (65535 : Int32)] (sm_hp m) [] rfl (sm_on) ?_
    obtain rfl := Option.some.inj hf
    exact w_reti dX3_at_14 rfl rfl
  · replace hf := sm_iff hc hf
    refine w_blk bX3_at_4 [.ref 29, .int x1] [.int (m.1 29 0), .int x1] (sm_hp m) [] rfl (sm_on) ?_
    refine w_icmp_lt (tgt := 15) dX3_at_9 rfl (fun hc => ?_) (fun hc => ?_)
    · replace hf := sm_ift hc hf
      replace hf := sm_ck hf
      obtain ⟨q1, hf⟩ := hf
      refine w_blk bX3_at_15 [.ref 29, .int x1] [.int ((((m.2 30 (x1 >>> ((2 : Int32) &&& 31)).toNatClampNeg) >>> ((((x1 &&& (3 : Int32)) <<< ((4 : Int32) &&& 31))).toInt64 &&& 63))).toInt32 &&& (65535 : Int32))] (sm_hp m) [((x1 >>> ((2 : Int32) &&& 31)), 769)] rfl (sm_oc q1 (sm_on)) ?_
      obtain rfl := Option.some.inj hf
      exact w_reti dX3_at_33 rfl rfl
    · replace hf := sm_iff hc hf
      refine w_blk bX3_at_12 [.ref 29, .int x1] [.int (65535 : Int32)] (sm_hp m) [] rfl (sm_on) ?_
      obtain rfl := Option.some.inj hf
      exact w_reti dX3_at_14 rfl rfl
set_option maxRecDepth 10000 in
theorem tX4_costWithPair {l : Launch} {al : Bool} (x1 : Int32) (x2 : Int32) (x3 : Int32) (x4 : Int32) (m : sm_S) (r : Int32) (hf : fX4_costWithPair x1 x2 x3 x4 m = some r) : sm_Rt l mX4_costWithPair 2 0 0 al al [.ref 26, .ref 3, .int x1, .int x2, .int x3, .int x4] (sm_hp m) (some (.int r), sm_hp m) := by
  refine sm_Rt.ofW (L := [.ref 26, .ref 3, .int x1, .int x2, .int x3, .int x4, .retAddr 0]) (by decide) (Nat.le_of_ble_eq_true rfl) rfl ?_
  unfold fX4_costWithPair at hf
  refine w_blk bX4_costWithPair_0 [.ref 26, .ref 3, .int x1, .int x2, .int x3, .int x4, .retAddr 0] [.int ((x4 * (1024 : Int32)) + (x3 &&& (((1 : Int32) <<< (x2 &&& 31)) ^^^ (-1 : Int32)))), .ref 29] (sm_hp m) [] rfl (sm_on) ?_
  replace hf := sm_bd hf
  obtain ⟨r2, q1, hf⟩ := hf
  refine w_callV [.int ((x4 * (1024 : Int32)) + (x3 &&& (((1 : Int32) <<< (x2 &&& 31)) ^^^ (-1 : Int32))))] [] (tX3_at ((x4 * (1024 : Int32)) + (x3 &&& (((1 : Int32) <<< (x2 &&& 31)) ^^^ (-1 : Int32)))) m r2 q1) (cvX4_108 rfl) dX4_costWithPair_19 rfl rfl (by decide) (by decide) rfl (Nat.le_of_ble_eq_true rfl) ?_
  show sm_W _ _ _ _ _ 22 [.ref 26, .ref 3, .int x1, .int x2, .int x3, .int x4, .retAddr 0] [.int r2] (sm_hp m)
  refine w_blk bX4_costWithPair_22 [.ref 26, .ref 3, .int x1, .int x2, .int x3, .int x4, .int r2] [.int x2, .int x1, .ref 3, .int r2, .int (65535 : Int32)] (sm_hp m) [] rfl (sm_on) ?_
  replace hf := sm_bd hf
  obtain ⟨r4, q3, hf⟩ := hf
  refine w_callV [.int x1, .int x2] [.int r2, .int (65535 : Int32)] (tX2_grassBetween x1 x2 m r4 q3) (cvX4_123 rfl) dX4_costWithPair_31 rfl rfl (by decide) (by decide) rfl (Nat.le_of_ble_eq_true rfl) ?_
  show sm_W _ _ _ _ _ 34 [.ref 26, .ref 3, .int x1, .int x2, .int x3, .int x4, .int r2] [.int r4, .int r2, .int (65535 : Int32)] (sm_hp m)
  refine w_blk bX4_costWithPair_34 [.ref 26, .ref 3, .int x1, .int x2, .int x3, .int x4, .int r2] [.int (if (r2 + r4) < (65535 : Int32) then (r2 + r4) else (65535 : Int32))] (sm_hp m) [] rfl (sm_on) ?_
  obtain rfl := Option.some.inj hf
  exact w_reti dX4_costWithPair_38 rfl rfl
set_option maxRecDepth 10000 in
theorem tX4_partnerOf_14 {l : Launch} {al : Bool} : ∀ (n : Nat) (v2 : Int32) (v3 : Int32) (v4 : Int32) (v5 : Int32) (v6 : Int32) (m : sm_S) (r : Int32), fX4_partnerOf_14 n v2 v3 v4 v5 v6 m = some r → sm_W l mX4_partnerOf 3 al (some (.int r), sm_hp m) 14 [.ref 26, .ref 3, .int v2, .int v3, .int v4, .int v5, .int v6] [] (sm_hp m) := by
  intro n
  induction n with
  | zero =>
    intro v2 v3 v4 v5 v6 m r hf
    unfold fX4_partnerOf_14 at hf
    cases hf
  | succ n ih =>
    intro v2 v3 v4 v5 v6 m r hf
    unfold fX4_partnerOf_14 at hf
    refine w_blk bX4_partnerOf_14 [.ref 26, .ref 3, .int v2, .int v3, .int v4, .int v5, .int v6] [.int (m.1 3 0), .int v6] (sm_hp m) [] rfl (sm_on) ?_
    refine w_icmp_ge (tgt := 72) dX4_partnerOf_20 rfl (fun hc => ?_) (fun hc => ?_)
    · replace hf := sm_ift hc hf
      refine w_blk bX4_partnerOf_72 [.ref 26, .ref 3, .int v2, .int v3, .int v4, .int v5, .int v6] [.int (-1 : Int32)] (sm_hp m) [] rfl (sm_on) ?_
      obtain rfl := Option.some.inj hf
      exact w_reti dX4_partnerOf_73 rfl rfl
    · replace hf := sm_iff hc hf
      refine w_blk bX4_partnerOf_23 [.ref 26, .ref 3, .int v2, .int v3, .int v4, .int v5, .int v6] [.int ((v5 >>> (v6 &&& 31)) &&& (1 : Int32))] (sm_hp m) [] rfl (sm_on) ?_
      refine w_if_eq (tgt := 66) dX4_partnerOf_30 rfl (fun hc => ?_) (fun hc => ?_)
      · replace hf := sm_ift hc hf
        refine w_blk bX4_partnerOf_66 [.ref 26, .ref 3, .int v2, .int v3, .int v4, .int v5, .int (v6 + (1 : Int32))] [] (sm_hp m) [] rfl (sm_on) ?_
        refine w_goto (tgt := 14) dX4_partnerOf_69 rfl ?_
        exact ih v2 v3 v4 v5 (v6 + (1 : Int32)) m r hf
      · replace hf := sm_iff hc hf
        refine w_blk bX4_partnerOf_33 [.ref 26, .ref 3, .int v2, .int v3, .int v4, .int v5, .int v6] [.int v4, .int v5, .int v6, .int v2, .ref 3, .ref 26] (sm_hp m) [] rfl (sm_on) ?_
        replace hf := sm_bd hf
        obtain ⟨r2, q1, hf⟩ := hf
        refine w_callV [.ref 3, .int v2, .int v6, .int v5, .int v4] [] (tX4_costWithPair v2 v6 v5 v4 m r2 q1) (cvX4_114 rfl) dX4_partnerOf_42 rfl rfl (by decide) (by decide) rfl (Nat.le_of_ble_eq_true rfl) ?_
        show sm_W _ _ _ _ _ 45 [.ref 26, .ref 3, .int v2, .int v3, .int v4, .int v5, .int v6] [.int r2] (sm_hp m)
        refine w_blk bX4_partnerOf_45 [.ref 26, .ref 3, .int v2, .int v3, .int v4, .int v5, .int v6] [.int ((v4 * (1024 : Int32)) + v3), .ref 29, .int r2] (sm_hp m) [] rfl (sm_on) ?_
        replace hf := sm_bd hf
        obtain ⟨r4, q3, hf⟩ := hf
        refine w_callV [.int ((v4 * (1024 : Int32)) + v3)] [.int r2] (tX3_at ((v4 * (1024 : Int32)) + v3) m r4 q3) (cvX4_108 rfl) dX4_partnerOf_57 rfl rfl (by decide) (by decide) rfl (Nat.le_of_ble_eq_true rfl) ?_
        show sm_W _ _ _ _ _ 60 [.ref 26, .ref 3, .int v2, .int v3, .int v4, .int v5, .int v6] [.int r4, .int r2] (sm_hp m)
        refine w_icmp_ne (tgt := 66) dX4_partnerOf_60 rfl (fun hc => ?_) (fun hc => ?_)
        · replace hf := sm_iff hc hf
          refine w_blk bX4_partnerOf_66 [.ref 26, .ref 3, .int v2, .int v3, .int v4, .int v5, .int (v6 + (1 : Int32))] [] (sm_hp m) [] rfl (sm_on) ?_
          refine w_goto (tgt := 14) dX4_partnerOf_69 rfl ?_
          exact ih v2 v3 v4 v5 (v6 + (1 : Int32)) m r hf
        · replace hf := sm_ift hc hf
          refine w_blk bX4_partnerOf_63 [.ref 26, .ref 3, .int v2, .int v3, .int v4, .int v5, .int v6] [.int v6] (sm_hp m) [] rfl (sm_on) ?_
          obtain rfl := Option.some.inj hf
          exact w_reti dX4_partnerOf_65 rfl rfl
set_option maxRecDepth 10000 in
theorem tX4_partnerOf {l : Launch} {al : Bool} (x1 : Int32) (x2 : Int32) (x3 : Int32) (m : sm_S) (r : Int32) (hf : fX4_partnerOf x1 x2 x3 m = some r) : sm_Rt l mX4_partnerOf 3 0 0 al al [.ref 26, .ref 3, .int x1, .int x2, .int x3] (sm_hp m) (some (.int r), sm_hp m) := by
  refine sm_Rt.ofW (L := [.ref 26, .ref 3, .int x1, .int x2, .int x3, .retAddr 0, .retAddr 0]) (by decide) (Nat.le_of_ble_eq_true rfl) rfl ?_
  unfold fX4_partnerOf at hf
  refine w_blk bX4_partnerOf_0 [.ref 26, .ref 3, .int x1, .int x2, .int x3, .int (x2 &&& (((1 : Int32) <<< (x1 &&& 31)) ^^^ (-1 : Int32))), .int (x1 + (1 : Int32))] [] (sm_hp m) [] rfl (sm_on) ?_
  exact tX4_partnerOf_14 sm_fu x1 x2 x3 (x2 &&& (((1 : Int32) <<< (x1 &&& 31)) ^^^ (-1 : Int32))) (x1 + (1 : Int32)) m r hf
set_option maxRecDepth 10000 in
theorem tX4_tellPairs_14 {l : Launch} {al : Bool} : ∀ (n : Nat) (v5 : Int32) (v6 : Int32) (v7 : Int32) (m : sm_S) (r : sm_S), fX4_tellPairs_14 n v5 v6 v7 m = some r → sm_W l mX4_tellPairs 4 al (none, sm_hp r) 14 [.ref 26, .ref 3, .retAddr 0, .retAddr 0, .ref 14, .int v5, .int v6, .int v7, .retAddr 0] [] (sm_hp m) := by
  intro n
  induction n with
  | zero =>
    intro v5 v6 v7 m r hf
    unfold fX4_tellPairs_14 at hf
    cases hf
  | succ n ih =>
    intro v5 v6 v7 m r hf
    unfold fX4_tellPairs_14 at hf
    refine w_blk bX4_tellPairs_14 [.ref 26, .ref 3, .retAddr 0, .retAddr 0, .ref 14, .int v5, .int v6, .int v7, .retAddr 0] [.int (m.1 3 0), .int v7] (sm_hp m) [] rfl (sm_on) ?_
    refine w_icmp_ge (tgt := 106) dX4_tellPairs_20 rfl (fun hc => ?_) (fun hc => ?_)
    · replace hf := sm_ift hc hf
      obtain rfl := Option.some.inj hf
      exact w_retv dX4_tellPairs_106 rfl
    · replace hf := sm_iff hc hf
      refine w_blk bX4_tellPairs_23 [.ref 26, .ref 3, .retAddr 0, .retAddr 0, .ref 14, .int v5, .int v6, .int v7, .retAddr 0] [.int ((v5 >>> (v7 &&& 31)) &&& (1 : Int32))] (sm_hp m) [] rfl (sm_on) ?_
      refine w_if_eq (tgt := 100) dX4_tellPairs_30 rfl (fun hc => ?_) (fun hc => ?_)
      · replace hf := sm_ift hc hf
        refine w_blk bX4_tellPairs_100 [.ref 26, .ref 3, .retAddr 0, .retAddr 0, .ref 14, .int v5, .int v6, .int (v7 + (1 : Int32)), .retAddr 0] [] (sm_hp m) [] rfl (sm_on) ?_
        refine w_goto (tgt := 14) dX4_tellPairs_103 rfl ?_
        exact ih v5 v6 (v7 + (1 : Int32)) m r hf
      · replace hf := sm_iff hc hf
        refine w_blk bX4_tellPairs_33 [.ref 26, .ref 3, .retAddr 0, .retAddr 0, .ref 14, .int v5, .int v6, .int v7, .retAddr 0] [.int v6, .int v5, .int v7, .ref 3, .ref 26] (sm_hp m) [] rfl (sm_on) ?_
        replace hf := sm_bd hf
        obtain ⟨r4, q3, hf⟩ := hf
        refine w_callV [.ref 3, .int v7, .int v5, .int v6] [] (tX4_partnerOf v7 v5 v6 m r4 q3) (cvX4_126 rfl) dX4_tellPairs_41 rfl rfl (by decide) (by decide) rfl (Nat.le_of_ble_eq_true rfl) ?_
        show sm_W _ _ _ _ _ 44 [.ref 26, .ref 3, .retAddr 0, .retAddr 0, .ref 14, .int v5, .int v6, .int v7, .retAddr 0] [.int r4] (sm_hp m)
        refine w_blk bX4_tellPairs_44 [.ref 26, .ref 3, .retAddr 0, .retAddr 0, .ref 14, .int (v5 &&& (((1 : Int32) <<< (v7 &&& 31)) ^^^ (-1 : Int32))), .int v6, .int v7, .int r4] [.int r4] (sm_hp m) [] rfl (sm_on) ?_
        refine w_if_ge (tgt := 75) dX4_tellPairs_59 rfl (fun hc => ?_) (fun hc => ?_)
        · replace hf := sm_ift hc hf
          refine w_blk bX4_tellPairs_75 [.ref 26, .ref 3, .retAddr 0, .retAddr 0, .ref 14, .int ((v5 &&& (((1 : Int32) <<< (v7 &&& 31)) ^^^ (-1 : Int32))) &&& (((1 : Int32) <<< (r4 &&& 31)) ^^^ (-1 : Int32))), .int v6, .int v7, .int r4] [.int v7, .ref 14] (sm_hp m) [] rfl (sm_on) ?_
          replace hf := sm_bd hf
          obtain ⟨m6, q5, hf⟩ := hf
          refine w_callV [.int v7] [] (tX5_add v7 m m6 q5) (cvX4_46 rfl) dX4_tellPairs_90 rfl rfl (by decide) (by decide) rfl (Nat.le_of_ble_eq_true rfl) ?_
          show sm_W _ _ _ _ _ 93 [.ref 26, .ref 3, .retAddr 0, .retAddr 0, .ref 14, .int ((v5 &&& (((1 : Int32) <<< (v7 &&& 31)) ^^^ (-1 : Int32))) &&& (((1 : Int32) <<< (r4 &&& 31)) ^^^ (-1 : Int32))), .int v6, .int v7, .int r4] [] (sm_hp m6)
          refine w_blk bX4_tellPairs_93 [.ref 26, .ref 3, .retAddr 0, .retAddr 0, .ref 14, .int ((v5 &&& (((1 : Int32) <<< (v7 &&& 31)) ^^^ (-1 : Int32))) &&& (((1 : Int32) <<< (r4 &&& 31)) ^^^ (-1 : Int32))), .int v6, .int v7, .int r4] [.int r4, .ref 14] (sm_hp m6) [] rfl (sm_on) ?_
          replace hf := sm_bd hf
          obtain ⟨m8, q7, hf⟩ := hf
          refine w_callV [.int r4] [] (tX5_add r4 m6 m8 q7) (cvX4_46 rfl) dX4_tellPairs_97 rfl rfl (by decide) (by decide) rfl (Nat.le_of_ble_eq_true rfl) ?_
          show sm_W _ _ _ _ _ 100 [.ref 26, .ref 3, .retAddr 0, .retAddr 0, .ref 14, .int ((v5 &&& (((1 : Int32) <<< (v7 &&& 31)) ^^^ (-1 : Int32))) &&& (((1 : Int32) <<< (r4 &&& 31)) ^^^ (-1 : Int32))), .int v6, .int v7, .int r4] [] (sm_hp m8)
          refine w_blk bX4_tellPairs_100 [.ref 26, .ref 3, .retAddr 0, .retAddr 0, .ref 14, .int ((v5 &&& (((1 : Int32) <<< (v7 &&& 31)) ^^^ (-1 : Int32))) &&& (((1 : Int32) <<< (r4 &&& 31)) ^^^ (-1 : Int32))), .int v6, .int (v7 + (1 : Int32)), .int r4] [] (sm_hp m8) [] rfl (sm_on) ?_
          refine w_goto (tgt := 14) dX4_tellPairs_103 rfl ?_
          refine w_wk [true, true, false, false, true, true, true, true, false] ?_
          exact ih ((v5 &&& (((1 : Int32) <<< (v7 &&& 31)) ^^^ (-1 : Int32))) &&& (((1 : Int32) <<< (r4 &&& 31)) ^^^ (-1 : Int32))) v6 (v7 + (1 : Int32)) m8 r hf
        · replace hf := sm_iff hc hf
          refine w_blk bX4_tellPairs_62 [.ref 26, .ref 3, .retAddr 0, .retAddr 0, .ref 14, .int (v5 &&& (((1 : Int32) <<< (v7 &&& 31)) ^^^ (-1 : Int32))), .int (if (0 : Int32) < (v6 - (1 : Int32)) then (v6 - (1 : Int32)) else (0 : Int32)), .int v7, .int r4] [] (sm_hp m) [] rfl (sm_on) ?_
          refine w_goto (tgt := 100) dX4_tellPairs_72 rfl ?_
          refine w_blk bX4_tellPairs_100 [.ref 26, .ref 3, .retAddr 0, .retAddr 0, .ref 14, .int (v5 &&& (((1 : Int32) <<< (v7 &&& 31)) ^^^ (-1 : Int32))), .int (if (0 : Int32) < (v6 - (1 : Int32)) then (v6 - (1 : Int32)) else (0 : Int32)), .int (v7 + (1 : Int32)), .int r4] [] (sm_hp m) [] rfl (sm_on) ?_
          refine w_goto (tgt := 14) dX4_tellPairs_103 rfl ?_
          refine w_wk [true, true, false, false, true, true, true, true, false] ?_
          exact ih (v5 &&& (((1 : Int32) <<< (v7 &&& 31)) ^^^ (-1 : Int32))) (if (0 : Int32) < (v6 - (1 : Int32)) then (v6 - (1 : Int32)) else (0 : Int32)) (v7 + (1 : Int32)) m r hf
set_option maxRecDepth 10000 in
theorem tX4_tellPairs {l : Launch} {al : Bool} (x1 : Int32) (x2 : Int32) (m : sm_S) (r : sm_S) (hf : fX4_tellPairs x1 x2 m = some r) : sm_Rt l mX4_tellPairs 4 0 0 al al [.ref 26, .ref 3, .int x1, .int x2, .ref 14] (sm_hp m) (none, sm_hp r) := by
  refine sm_Rt.ofW (L := [.ref 26, .ref 3, .int x1, .int x2, .ref 14, .retAddr 0, .retAddr 0, .retAddr 0, .retAddr 0]) (by decide) (Nat.le_of_ble_eq_true rfl) rfl ?_
  unfold fX4_tellPairs at hf
  refine w_blk bX4_tellPairs_0 [.ref 26, .ref 3, .int x1, .int x2, .ref 14, .retAddr 0, .retAddr 0, .retAddr 0, .retAddr 0] [.ref 14] (sm_hp m) [] rfl (sm_on) ?_
  replace hf := sm_bd hf
  obtain ⟨m2, q1, hf⟩ := hf
  refine w_callV [] [] (tX5_clear m m2 q1) (cvX4_27 rfl) dX4_tellPairs_2 rfl rfl (by decide) (by decide) rfl (Nat.le_of_ble_eq_true rfl) ?_
  show sm_W _ _ _ _ _ 5 [.ref 26, .ref 3, .int x1, .int x2, .ref 14, .retAddr 0, .retAddr 0, .retAddr 0, .retAddr 0] [] (sm_hp m2)
  refine w_blk bX4_tellPairs_5 [.ref 26, .ref 3, .int x1, .int x2, .ref 14, .int x1, .int x2, .int (0 : Int32), .retAddr 0] [] (sm_hp m2) [] rfl (sm_on) ?_
  refine w_wk [true, true, false, false, true, true, true, true, false] ?_
  exact tX4_tellPairs_14 sm_fu x1 x2 (0 : Int32) m2 r hf
set_option maxRecDepth 10000 in
theorem tX3_put {l : Launch} {al : Bool} (x1 : Int32) (x2 : Int32) (m : sm_S) (r : sm_S) (hf : fX3_put x1 x2 m = some r) : sm_Rt l mX3_put 1 0 0 al al [.ref 29, .int x1, .int x2] (sm_hp m) (none, sm_hp r) := by
  refine sm_Rt.ofW (L := [.ref 29, .int x1, .int x2, .retAddr 0, .retAddr 0, .retAddr 0]) (by decide) (Nat.le_of_ble_eq_true rfl) rfl ?_
  unfold fX3_put at hf
  refine w_blk bX3_put_0 [.ref 29, .int x1, .int x2, .retAddr 0, .retAddr 0, .retAddr 0] [.int x1] (sm_hp m) [] rfl (sm_on) ?_
  refine w_if_lt (tgt := 58) dX3_put_1 rfl (fun hc => ?_) (fun hc => ?_)
  · replace hf := sm_ift hc hf
    obtain rfl := Option.some.inj hf
    exact w_retv dX3_put_58 rfl
  · replace hf := sm_iff hc hf
    refine w_blk bX3_put_4 [.ref 29, .int x1, .int x2, .retAddr 0, .retAddr 0, .retAddr 0] [.int (m.1 29 0), .int x1] (sm_hp m) [] rfl (sm_on) ?_
    refine w_icmp_ge (tgt := 58) dX3_put_9 rfl (fun hc => ?_) (fun hc => ?_)
    · replace hf := sm_ift hc hf
      obtain rfl := Option.some.inj hf
      exact w_retv dX3_put_58 rfl
    · replace hf := sm_iff hc hf
      replace hf := sm_ck hf
      obtain ⟨q1, hf⟩ := hf
      replace hf := sm_ck hf
      obtain ⟨q2, hf⟩ := hf
      refine w_blk bX3_put_12 [.ref 29, .int x1, .int x2, .int ((x1 &&& (3 : Int32)) <<< ((4 : Int32) &&& 31)), .long ((m.2 30 (x1 >>> ((2 : Int32) &&& 31)).toNatClampNeg) &&& (((65535 : Int64) <<< ((((x1 &&& (3 : Int32)) <<< ((4 : Int32) &&& 31))).toInt64 &&& 63)) ^^^ (-1 : Int64))), .retAddr 0] [] (sm_hp (sm_w2 m 30 (x1 >>> ((2 : Int32) &&& 31)).toNatClampNeg (((m.2 30 (x1 >>> ((2 : Int32) &&& 31)).toNatClampNeg) &&& (((65535 : Int64) <<< ((((x1 &&& (3 : Int32)) <<< ((4 : Int32) &&& 31))).toInt64 &&& 63)) ^^^ (-1 : Int64))) ||| (((if (65535 : Int32) < x2 then (65535 : Int32) else x2)).toInt64 <<< ((((x1 &&& (3 : Int32)) <<< ((4 : Int32) &&& 31))).toInt64 &&& 63))))) [((x1 >>> ((2 : Int32) &&& 31)), 769), ((x1 >>> ((2 : Int32) &&& 31)), 769)] rfl (sm_oc q1 (sm_oc q2 (sm_on))) ?_
      obtain rfl := Option.some.inj hf
      exact w_retv dX3_put_58 rfl
set_option maxRecDepth 10000 in
theorem tX4_lowestOf_2 {l : Launch} {al : Bool} : ∀ (n : Nat) (v0 : Int32) (v1 : Int32) (m : sm_S) (r : Int32), fX4_lowestOf_2 n v0 v1 m = some r → sm_W l mX4_lowestOf 1 al (some (.int r), sm_hp m) 2 [.int v0, .int v1] [] (sm_hp m) := by
  intro n
  induction n with
  | zero =>
    intro v0 v1 m r hf
    unfold fX4_lowestOf_2 at hf
    cases hf
  | succ n ih =>
    intro v0 v1 m r hf
    unfold fX4_lowestOf_2 at hf
    refine w_blk bX4_lowestOf_2 [.int v0, .int v1] [.int (10 : Int32), .int v1] (sm_hp m) [] rfl (sm_on) ?_
    refine w_icmp_ge (tgt := 24) dX4_lowestOf_5 rfl (fun hc => ?_) (fun hc => ?_)
    · replace hf := sm_ift hc hf
      refine w_blk bX4_lowestOf_24 [.int v0, .int v1] [.int (0 : Int32)] (sm_hp m) [] rfl (sm_on) ?_
      obtain rfl := Option.some.inj hf
      exact w_reti dX4_lowestOf_25 rfl rfl
    · replace hf := sm_iff hc hf
      refine w_blk bX4_lowestOf_8 [.int v0, .int v1] [.int ((v0 >>> (v1 &&& 31)) &&& (1 : Int32))] (sm_hp m) [] rfl (sm_on) ?_
      refine w_if_eq (tgt := 18) dX4_lowestOf_13 rfl (fun hc => ?_) (fun hc => ?_)
      · replace hf := sm_ift hc hf
        refine w_blk bX4_lowestOf_18 [.int v0, .int (v1 + (1 : Int32))] [] (sm_hp m) [] rfl (sm_on) ?_
        refine w_goto (tgt := 2) dX4_lowestOf_21 rfl ?_
        exact ih v0 (v1 + (1 : Int32)) m r hf
      · replace hf := sm_iff hc hf
        refine w_blk bX4_lowestOf_16 [.int v0, .int v1] [.int v1] (sm_hp m) [] rfl (sm_on) ?_
        obtain rfl := Option.some.inj hf
        exact w_reti dX4_lowestOf_17 rfl rfl
set_option maxRecDepth 10000 in
theorem tX4_lowestOf {l : Launch} {al : Bool} (x1 : Int32) (m : sm_S) (r : Int32) (hf : fX4_lowestOf x1 m = some r) : sm_Rt l mX4_lowestOf 1 0 0 al al [.int x1] (sm_hp m) (some (.int r), sm_hp m) := by
  refine sm_Rt.ofW (L := [.int x1, .retAddr 0]) (by decide) (Nat.le_of_ble_eq_true rfl) rfl ?_
  unfold fX4_lowestOf at hf
  refine w_blk bX4_lowestOf_0 [.int x1, .int (0 : Int32)] [] (sm_hp m) [] rfl (sm_on) ?_
  exact tX4_lowestOf_2 sm_fu x1 (0 : Int32) m r hf
set_option maxRecDepth 10000 in
theorem tX4_costOf_65 {l : Launch} {al : Bool} : ∀ (n : Nat) (v3 : Int32) (v4 : Int32) (v5 : Int32) (v6 : Int32) (v7 : Int32) (m : sm_S) (r : Int32), fX4_costOf_65 n v3 v4 v5 v6 v7 m = some r → sm_W l mX4_costOf 3 al (some (.int r), sm_hp m) 65 [.ref 26, .ref 3, .retAddr 0, .int v3, .int v4, .int v5, .int v6, .int v7] [] (sm_hp m) := by
  intro n
  induction n with
  | zero =>
    intro v3 v4 v5 v6 v7 m r hf
    unfold fX4_costOf_65 at hf
    cases hf
  | succ n ih =>
    intro v3 v4 v5 v6 v7 m r hf
    unfold fX4_costOf_65 at hf
    refine w_blk bX4_costOf_65 [.ref 26, .ref 3, .retAddr 0, .int v3, .int v4, .int v5, .int v6, .int v7] [.int (m.1 3 0), .int v7] (sm_hp m) [] rfl (sm_on) ?_
    refine w_icmp_ge (tgt := 109) dX4_costOf_71 rfl (fun hc => ?_) (fun hc => ?_)
    · replace hf := sm_ift hc hf
      refine w_blk bX4_costOf_109 [.ref 26, .ref 3, .retAddr 0, .int v3, .int v4, .int v5, .int v6, .int v7] [.int v6] (sm_hp m) [] rfl (sm_on) ?_
      obtain rfl := Option.some.inj hf
      exact w_reti dX4_costOf_111 rfl rfl
    · replace hf := sm_iff hc hf
      refine w_blk bX4_costOf_74 [.ref 26, .ref 3, .retAddr 0, .int v3, .int v4, .int v5, .int v6, .int v7] [.int ((v5 >>> (v7 &&& 31)) &&& (1 : Int32))] (sm_hp m) [] rfl (sm_on) ?_
      refine w_if_eq (tgt := 103) dX4_costOf_81 rfl (fun hc => ?_) (fun hc => ?_)
      · replace hf := sm_ift hc hf
        refine w_blk bX4_costOf_103 [.ref 26, .ref 3, .retAddr 0, .int v3, .int v4, .int v5, .int v6, .int (v7 + (1 : Int32))] [] (sm_hp m) [] rfl (sm_on) ?_
        refine w_goto (tgt := 65) dX4_costOf_106 rfl ?_
        exact ih v3 v4 v5 v6 (v7 + (1 : Int32)) m r hf
      · replace hf := sm_iff hc hf
        refine w_blk bX4_costOf_84 [.ref 26, .ref 3, .retAddr 0, .int v3, .int v4, .int v5, .int v6, .int v7] [.int v3, .int v5, .int v7, .int v4, .ref 3, .ref 26, .int v6] (sm_hp m) [] rfl (sm_on) ?_
        replace hf := sm_bd hf
        obtain ⟨r6, q5, hf⟩ := hf
        refine w_callV [.ref 3, .int v4, .int v7, .int v5, .int v3] [.int v6] (tX4_costWithPair v4 v7 v5 v3 m r6 q5) (cvX4_114 rfl) dX4_costOf_95 rfl rfl (by decide) (by decide) rfl (Nat.le_of_ble_eq_true rfl) ?_
        show sm_W _ _ _ _ _ 98 [.ref 26, .ref 3, .retAddr 0, .int v3, .int v4, .int v5, .int v6, .int v7] [.int r6, .int v6] (sm_hp m)
        refine w_blk bX4_costOf_98 [.ref 26, .ref 3, .retAddr 0, .int v3, .int v4, .int v5, .int (if r6 < v6 then r6 else v6), .int v7] [] (sm_hp m) [] rfl (sm_on) ?_
        refine w_blk bX4_costOf_103 [.ref 26, .ref 3, .retAddr 0, .int v3, .int v4, .int v5, .int (if r6 < v6 then r6 else v6), .int (v7 + (1 : Int32))] [] (sm_hp m) [] rfl (sm_on) ?_
        refine w_goto (tgt := 65) dX4_costOf_106 rfl ?_
        exact ih v3 v4 v5 (if r6 < v6 then r6 else v6) (v7 + (1 : Int32)) m r hf
set_option maxRecDepth 10000 in
theorem tX4_costOf {l : Launch} {al : Bool} (x1 : Int32) (x2 : Int32) (m : sm_S) (r : Int32) (hf : fX4_costOf x1 x2 m = some r) : sm_Rt l mX4_costOf 3 0 0 al al [.ref 26, .ref 3, .int x1, .int x2] (sm_hp m) (some (.int r), sm_hp m) := by
  refine sm_Rt.ofW (L := [.ref 26, .ref 3, .int x1, .int x2, .retAddr 0, .retAddr 0, .retAddr 0, .retAddr 0]) (by decide) (Nat.le_of_ble_eq_true rfl) rfl ?_
  unfold fX4_costOf at hf
  refine w_blk bX4_costOf_0 [.ref 26, .ref 3, .int x1, .int x2, .retAddr 0, .retAddr 0, .retAddr 0, .retAddr 0] [.int x1] (sm_hp m) [] rfl (sm_on) ?_
  refine w_if_ne (tgt := 15) dX4_costOf_1 rfl (fun hc => ?_) (fun hc => ?_)
  · replace hf := sm_iff hc hf
    refine w_blk bX4_costOf_15 [.ref 26, .ref 3, .int x1, .int x2, .retAddr 0, .retAddr 0, .retAddr 0, .retAddr 0] [.int x1] (sm_hp m) [] rfl (sm_on) ?_
    replace hf := sm_bd hf
    obtain ⟨r2, q1, hf⟩ := hf
    refine w_callS [.int x1] [] (tX4_lowestOf x1 m r2 q1) (csX4_111 rfl) dX4_costOf_16 rfl rfl (by decide) (by decide) (Nat.le_of_ble_eq_true rfl) ?_
    show sm_W _ _ _ _ _ 19 [.ref 26, .ref 3, .int x1, .int x2, .retAddr 0, .retAddr 0, .retAddr 0, .retAddr 0] [.int r2] (sm_hp m)
    refine w_blk bX4_costOf_19 [.ref 26, .ref 3, .int x1, .int x2, .int r2, .int (x1 &&& (((1 : Int32) <<< (r2 &&& 31)) ^^^ (-1 : Int32))), .retAddr 0, .retAddr 0] [.int x2] (sm_hp m) [] rfl (sm_on) ?_
    refine w_if_ne (tgt := 40) dX4_costOf_32 rfl (fun hc => ?_) (fun hc => ?_)
    · replace hf := sm_iff hc hf
      refine w_blk bX4_costOf_40 [.ref 26, .ref 3, .int x1, .int x2, .int r2, .int (x1 &&& (((1 : Int32) <<< (r2 &&& 31)) ^^^ (-1 : Int32))), .retAddr 0, .retAddr 0] [.int (((x2 - (1 : Int32)) * (1024 : Int32)) + (x1 &&& (((1 : Int32) <<< (r2 &&& 31)) ^^^ (-1 : Int32)))), .ref 29] (sm_hp m) [] rfl (sm_on) ?_
      replace hf := sm_bd hf
      obtain ⟨r4, q3, hf⟩ := hf
      refine w_callV [.int (((x2 - (1 : Int32)) * (1024 : Int32)) + (x1 &&& (((1 : Int32) <<< (r2 &&& 31)) ^^^ (-1 : Int32))))] [] (tX3_at (((x2 - (1 : Int32)) * (1024 : Int32)) + (x1 &&& (((1 : Int32) <<< (r2 &&& 31)) ^^^ (-1 : Int32)))) m r4 q3) (cvX4_108 rfl) dX4_costOf_54 rfl rfl (by decide) (by decide) rfl (Nat.le_of_ble_eq_true rfl) ?_
      show sm_W _ _ _ _ _ 57 [.ref 26, .ref 3, .int x1, .int x2, .int r2, .int (x1 &&& (((1 : Int32) <<< (r2 &&& 31)) ^^^ (-1 : Int32))), .retAddr 0, .retAddr 0] [.int r4] (sm_hp m)
      refine w_blk bX4_costOf_57 [.ref 26, .ref 3, .int x1, .int x2, .int r2, .int (x1 &&& (((1 : Int32) <<< (r2 &&& 31)) ^^^ (-1 : Int32))), .int r4, .int (r2 + (1 : Int32))] [] (sm_hp m) [] rfl (sm_on) ?_
      refine w_wk [true, true, false, true, true, true, true, true] ?_
      exact tX4_costOf_65 sm_fu x2 r2 (x1 &&& (((1 : Int32) <<< (r2 &&& 31)) ^^^ (-1 : Int32))) r4 (r2 + (1 : Int32)) m r hf
    · replace hf := sm_ift hc hf
      refine w_blk bX4_costOf_35 [.ref 26, .ref 3, .int x1, .int x2, .int r2, .int (x1 &&& (((1 : Int32) <<< (r2 &&& 31)) ^^^ (-1 : Int32))), .retAddr 0, .retAddr 0] [.int (65535 : Int32)] (sm_hp m) [] rfl (sm_on) ?_
      refine w_goto (tgt := 57) dX4_costOf_37 rfl ?_
      refine w_blk bX4_costOf_57 [.ref 26, .ref 3, .int x1, .int x2, .int r2, .int (x1 &&& (((1 : Int32) <<< (r2 &&& 31)) ^^^ (-1 : Int32))), .int (65535 : Int32), .int (r2 + (1 : Int32))] [] (sm_hp m) [] rfl (sm_on) ?_
      refine w_wk [true, true, false, true, true, true, true, true] ?_
      exact tX4_costOf_65 sm_fu x2 r2 (x1 &&& (((1 : Int32) <<< (r2 &&& 31)) ^^^ (-1 : Int32))) (65535 : Int32) (r2 + (1 : Int32)) m r hf
  · replace hf := sm_ift hc hf
    refine w_blk bX4_costOf_4 [.ref 26, .ref 3, .int x1, .int x2, .retAddr 0, .retAddr 0, .retAddr 0, .retAddr 0] [.int x2] (sm_hp m) [] rfl (sm_on) ?_
    refine w_if_ne (tgt := 12) dX4_costOf_5 rfl (fun hc => ?_) (fun hc => ?_)
    · replace hf := sm_iff hc hf
      refine w_blk bX4_costOf_12 [.ref 26, .ref 3, .int x1, .int x2, .retAddr 0, .retAddr 0, .retAddr 0, .retAddr 0] [.int (65535 : Int32)] (sm_hp m) [] rfl (sm_on) ?_
      obtain rfl := Option.some.inj hf
      exact w_reti dX4_costOf_14 rfl rfl
    · replace hf := sm_ift hc hf
      refine w_blk bX4_costOf_8 [.ref 26, .ref 3, .int x1, .int x2, .retAddr 0, .retAddr 0, .retAddr 0, .retAddr 0] [.int (0 : Int32)] (sm_hp m) [] rfl (sm_on) ?_
      refine w_goto (tgt := 14) dX4_costOf_9 rfl ?_
      obtain rfl := Option.some.inj hf
      exact w_reti dX4_costOf_14 rfl rfl
set_option maxRecDepth 10000 in
theorem tX4_leastGrass_22 {l : Launch} {al : Bool} (k13 : Int32 → Int32 → Int32 → sm_S → Option (Int32 × sm_S)) (hk13 : ∀ (v2 : Int32) (v4 : Int32) (v5 : Int32) (m : sm_S) (r : Int32 × sm_S), k13 v2 v4 v5 m = some r → sm_W l mX4_leastGrass 5 al (some (.int r.1), sm_hp r.2) 13 [.ref 26, .ref 3, .int v2, .ref 14, .int v4, .int v5, .retAddr 0] [] (sm_hp m)) : ∀ (n : Nat) (v2 : Int32) (v4 : Int32) (v5 : Int32) (v6 : Int32) (m : sm_S) (r : Int32 × sm_S), fX4_leastGrass_22 k13 n v2 v4 v5 v6 m = some r → sm_W l mX4_leastGrass 5 al (some (.int r.1), sm_hp r.2) 22 [.ref 26, .ref 3, .int v2, .ref 14, .int v4, .int v5, .int v6] [] (sm_hp m) := by
  intro n
  induction n with
  | zero =>
    intro v2 v4 v5 v6 m r hf
    unfold fX4_leastGrass_22 at hf
    cases hf
  | succ n ih =>
    intro v2 v4 v5 v6 m r hf
    unfold fX4_leastGrass_22 at hf
    refine w_blk bX4_leastGrass_22 [.ref 26, .ref 3, .int v2, .ref 14, .int v4, .int v5, .int v6] [.int ((1 : Int32) <<< ((m.1 3 0) &&& 31)), .int v6] (sm_hp m) [] rfl (sm_on) ?_
    refine w_icmp_ge (tgt := 79) dX4_leastGrass_30 rfl (fun hc => ?_) (fun hc => ?_)
    · replace hf := sm_ift hc hf
      refine w_blk bX4_leastGrass_79 [.ref 26, .ref 3, .int v2, .ref 14, .int v4, .int (v5 + (1 : Int32)), .int v6] [] (sm_hp m) [] rfl (sm_on) ?_
      refine w_goto (tgt := 13) dX4_leastGrass_82 rfl ?_
      refine w_wk [true, true, true, true, true, true, false] ?_
      exact hk13 v2 v4 (v5 + (1 : Int32)) m r hf
    · replace hf := sm_iff hc hf
      refine w_blk bX4_leastGrass_33 [.ref 26, .ref 3, .int v2, .ref 14, .int v4, .int v5, .int v6] [.int (v6 &&& (v4 ^^^ (-1 : Int32))), .int ((v5 * (1024 : Int32)) + v6), .ref 29] (sm_hp m) [] rfl (sm_on) ?_
      refine w_if_ne (tgt := 68) dX4_leastGrass_53 rfl (fun hc => ?_) (fun hc => ?_)
      · replace hf := sm_iff hc hf
        refine w_blk bX4_leastGrass_68 [.ref 26, .ref 3, .int v2, .ref 14, .int v4, .int v5, .int v6] [.int (65535 : Int32), .int ((v5 * (1024 : Int32)) + v6), .ref 29] (sm_hp m) [] rfl (sm_on) ?_
        replace hf := sm_bd hf
        obtain ⟨m10, q9, hf⟩ := hf
        refine w_callV [.int ((v5 * (1024 : Int32)) + v6), .int (65535 : Int32)] [] (tX3_put ((v5 * (1024 : Int32)) + v6) (65535 : Int32) m m10 q9) (cvX4_100 rfl) dX4_leastGrass_70 rfl rfl (by decide) (by decide) rfl (Nat.le_of_ble_eq_true rfl) ?_
        show sm_W _ _ _ _ _ 73 [.ref 26, .ref 3, .int v2, .ref 14, .int v4, .int v5, .int v6] [] (sm_hp m10)
        refine w_blk bX4_leastGrass_73 [.ref 26, .ref 3, .int v2, .ref 14, .int v4, .int v5, .int (v6 + (1 : Int32))] [] (sm_hp m10) [] rfl (sm_on) ?_
        refine w_goto (tgt := 22) dX4_leastGrass_76 rfl ?_
        exact ih v2 v4 v5 (v6 + (1 : Int32)) m10 r hf
      · replace hf := sm_ift hc hf
        refine w_blk bX4_leastGrass_56 [.ref 26, .ref 3, .int v2, .ref 14, .int v4, .int v5, .int v6] [.int v5, .int v6, .ref 3, .ref 26, .int ((v5 * (1024 : Int32)) + v6), .ref 29] (sm_hp m) [] rfl (sm_on) ?_
        replace hf := sm_bd hf
        obtain ⟨r12, q11, hf⟩ := hf
        refine w_callV [.ref 3, .int v6, .int v5] [.int ((v5 * (1024 : Int32)) + v6), .ref 29] (tX4_costOf v6 v5 m r12 q11) (cvX4_97 rfl) dX4_leastGrass_62 rfl rfl (by decide) (by decide) rfl (Nat.le_of_ble_eq_true rfl) ?_
        show sm_W _ _ _ _ _ 65 [.ref 26, .ref 3, .int v2, .ref 14, .int v4, .int v5, .int v6] [.int r12, .int ((v5 * (1024 : Int32)) + v6), .ref 29] (sm_hp m)
        refine w_goto (tgt := 70) dX4_leastGrass_65 rfl ?_
        replace hf := sm_bd hf
        obtain ⟨m14, q13, hf⟩ := hf
        refine w_callV [.int ((v5 * (1024 : Int32)) + v6), .int r12] [] (tX3_put ((v5 * (1024 : Int32)) + v6) r12 m m14 q13) (cvX4_100 rfl) dX4_leastGrass_70 rfl rfl (by decide) (by decide) rfl (Nat.le_of_ble_eq_true rfl) ?_
        show sm_W _ _ _ _ _ 73 [.ref 26, .ref 3, .int v2, .ref 14, .int v4, .int v5, .int v6] [] (sm_hp m14)
        refine w_blk bX4_leastGrass_73 [.ref 26, .ref 3, .int v2, .ref 14, .int v4, .int v5, .int (v6 + (1 : Int32))] [] (sm_hp m14) [] rfl (sm_on) ?_
        refine w_goto (tgt := 22) dX4_leastGrass_76 rfl ?_
        exact ih v2 v4 v5 (v6 + (1 : Int32)) m14 r hf
set_option maxRecDepth 10000 in
theorem tX4_leastGrass_13 {l : Launch} {al : Bool} : ∀ (n : Nat) (v2 : Int32) (v4 : Int32) (v5 : Int32) (m : sm_S) (r : Int32 × sm_S), fX4_leastGrass_13 n v2 v4 v5 m = some r → sm_W l mX4_leastGrass 5 al (some (.int r.1), sm_hp r.2) 13 [.ref 26, .ref 3, .int v2, .ref 14, .int v4, .int v5, .retAddr 0] [] (sm_hp m) := by
  intro n
  induction n with
  | zero =>
    intro v2 v4 v5 m r hf
    unfold fX4_leastGrass_13 at hf
    cases hf
  | succ n ih =>
    intro v2 v4 v5 m r hf
    unfold fX4_leastGrass_13 at hf
    refine w_blk bX4_leastGrass_13 [.ref 26, .ref 3, .int v2, .ref 14, .int v4, .int v5, .retAddr 0] [.int v2, .int v5] (sm_hp m) [] rfl (sm_on) ?_
    refine w_icmp_gt (tgt := 85) dX4_leastGrass_16 rfl (fun hc => ?_) (fun hc => ?_)
    · replace hf := sm_ift hc hf
      refine w_blk bX4_leastGrass_85 [.ref 26, .ref 3, .int v2, .ref 14, .int v4, .int v5, .retAddr 0] [.ref 14, .int v2, .int v4, .ref 3, .ref 26] (sm_hp m) [] rfl (sm_on) ?_
      replace hf := sm_bd hf
      obtain ⟨m6, q5, hf⟩ := hf
      refine w_callV [.ref 3, .int v4, .int v2, .ref 14] [] (tX4_tellPairs v4 v2 m m6 q5) (cvX4_104 rfl) dX4_leastGrass_91 rfl rfl (by decide) (by decide) rfl (Nat.le_of_ble_eq_true rfl) ?_
      show sm_W _ _ _ _ _ 94 [.ref 26, .ref 3, .int v2, .ref 14, .int v4, .int v5, .retAddr 0] [] (sm_hp m6)
      refine w_blk bX4_leastGrass_94 [.ref 26, .ref 3, .int v2, .ref 14, .int v4, .int v5, .retAddr 0] [.int ((v2 * (1024 : Int32)) + v4), .ref 29] (sm_hp m6) [] rfl (sm_on) ?_
      replace hf := sm_bd hf
      obtain ⟨r8, q7, hf⟩ := hf
      refine w_callV [.int ((v2 * (1024 : Int32)) + v4)] [] (tX3_at ((v2 * (1024 : Int32)) + v4) m6 r8 q7) (cvX4_108 rfl) dX4_leastGrass_106 rfl rfl (by decide) (by decide) rfl (Nat.le_of_ble_eq_true rfl) ?_
      show sm_W _ _ _ _ _ 109 [.ref 26, .ref 3, .int v2, .ref 14, .int v4, .int v5, .retAddr 0] [.int r8] (sm_hp m6)
      obtain rfl := Option.some.inj hf
      exact w_reti dX4_leastGrass_109 rfl rfl
    · replace hf := sm_iff hc hf
      refine w_blk bX4_leastGrass_19 [.ref 26, .ref 3, .int v2, .ref 14, .int v4, .int v5, .int (0 : Int32)] [] (sm_hp m) [] rfl (sm_on) ?_
      exact tX4_leastGrass_22 (fX4_leastGrass_13 n) ih sm_fu v2 v4 v5 (0 : Int32) m r hf
set_option maxRecDepth 10000 in
theorem tX4_leastGrass {l : Launch} {al : Bool} (x1 : Int32) (m : sm_S) (r : Int32 × sm_S) (hf : fX4_leastGrass x1 m = some r) : sm_Rt l mX4_leastGrass 5 0 0 al al [.ref 26, .ref 3, .int x1, .ref 14] (sm_hp m) (some (.int r.1), sm_hp r.2) := by
  refine sm_Rt.ofW (L := [.ref 26, .ref 3, .int x1, .ref 14, .retAddr 0, .retAddr 0, .retAddr 0]) (by decide) (Nat.le_of_ble_eq_true rfl) rfl ?_
  unfold fX4_leastGrass at hf
  refine w_blk bX4_leastGrass_0 [.ref 26, .ref 3, .int x1, .ref 14, .retAddr 0, .retAddr 0, .retAddr 0] [.ref 3, .ref 3] (sm_hp m) [] rfl (sm_on) ?_
  replace hf := sm_bd hf
  obtain ⟨r2, q1, hf⟩ := hf
  refine w_callV [] [.ref 3] (tX2_everyHedge m r2 q1) (cvX4_32 rfl) dX4_leastGrass_2 rfl rfl (by decide) (by decide) rfl (Nat.le_of_ble_eq_true rfl) ?_
  show sm_W _ _ _ _ _ 5 [.ref 26, .ref 3, .int x1, .ref 14, .retAddr 0, .retAddr 0, .retAddr 0] [.int r2, .ref 3] (sm_hp m)
  replace hf := sm_bd hf
  obtain ⟨r4, q3, hf⟩ := hf
  refine w_callV [.int r2] [] (tX2_oddCorners r2 m r4 q3) (cvX4_94 rfl) dX4_leastGrass_5 rfl rfl (by decide) (by decide) rfl (Nat.le_of_ble_eq_true rfl) ?_
  show sm_W _ _ _ _ _ 8 [.ref 26, .ref 3, .int x1, .ref 14, .retAddr 0, .retAddr 0, .retAddr 0] [.int r4] (sm_hp m)
  refine w_blk bX4_leastGrass_8 [.ref 26, .ref 3, .int x1, .ref 14, .int r4, .int (0 : Int32), .retAddr 0] [] (sm_hp m) [] rfl (sm_on) ?_
  exact tX4_leastGrass_13 sm_fu x1 r4 (0 : Int32) m r hf
set_option maxRecDepth 10000 in
theorem tX11_closed {l : Launch} {al : Bool} (m : sm_S) (r : Int32 × sm_S) (hf : fX11_closed m = some r) : sm_Rt l mX11_closed 6 0 0 al al [.ref 0] (sm_hp m) (some (.int r.1), sm_hp r.2) := by
  refine sm_Rt.ofW (L := [.ref 0]) (by decide) (Nat.le_of_ble_eq_true rfl) rfl ?_
  unfold fX11_closed at hf
  refine w_blk bX11_closed_0 [.ref 0] [.ref 3] (sm_hp m) [] rfl (sm_on) ?_
  replace hf := sm_bd hf
  obtain ⟨r2, q1, hf⟩ := hf
  refine w_callV [] [] (tX2_hangsTogether m r2 q1) (cvX11_295 rfl) dX11_closed_4 rfl rfl (by decide) (by decide) rfl (Nat.le_of_ble_eq_true rfl) ?_
  show sm_W _ _ _ _ _ 7 [.ref 0] [.int r2] (sm_hp m)
  refine w_if_ne (tgt := 13) dX11_closed_7 rfl (fun hc => ?_) (fun hc => ?_)
  · replace hf := sm_iff hc hf
    refine w_blk bX11_closed_13 [.ref 0] [.ref 14, .int (0 : Int32), .ref 3, .ref 26] (sm_hp m) [] rfl (sm_on) ?_
    replace hf := sm_bd hf
    obtain ⟨r4, q3, hf⟩ := hf
    refine w_callV [.ref 3, .int (0 : Int32), .ref 14] [] (tX4_leastGrass (0 : Int32) m r4 q3) (cvX11_304 rfl) dX11_closed_26 rfl rfl (by decide) (by decide) rfl (Nat.le_of_ble_eq_true rfl) ?_
    show sm_W _ _ _ _ _ 29 [.ref 0] [.int r4.1] (sm_hp r4.2)
    obtain rfl := Option.some.inj hf
    exact w_reti dX11_closed_29 rfl rfl
  · replace hf := sm_ift hc hf
    refine w_blk bX11_closed_10 [.ref 0] [.int (-2 : Int32)] (sm_hp m) [] rfl (sm_on) ?_
    obtain rfl := Option.some.inj hf
    exact w_reti dX11_closed_12 rfl rfl
set_option maxRecDepth 10000 in
theorem tX11_open {l : Launch} {al : Bool} (m : sm_S) (r : Int32 × sm_S) (hf : fX11_open m = some r) : sm_Rt l mX11_open 6 0 0 al al [.ref 0] (sm_hp m) (some (.int r.1), sm_hp r.2) := by
  refine sm_Rt.ofW (L := [.ref 0, .retAddr 0]) (by decide) (Nat.le_of_ble_eq_true rfl) rfl ?_
  unfold fX11_open at hf
  refine w_blk bX11_open_0 [.ref 0, .retAddr 0] [.ref 3] (sm_hp m) [] rfl (sm_on) ?_
  replace hf := sm_bd hf
  obtain ⟨r2, q1, hf⟩ := hf
  refine w_callV [] [] (tX2_hangsTogether m r2 q1) (cvX11_295 rfl) dX11_open_4 rfl rfl (by decide) (by decide) rfl (Nat.le_of_ble_eq_true rfl) ?_
  show sm_W _ _ _ _ _ 7 [.ref 0, .retAddr 0] [.int r2] (sm_hp m)
  refine w_if_ne (tgt := 13) dX11_open_7 rfl (fun hc => ?_) (fun hc => ?_)
  · replace hf := sm_iff hc hf
    refine w_blk bX11_open_13 [.ref 0, .retAddr 0] [.ref 3, .ref 3] (sm_hp m) [] rfl (sm_on) ?_
    replace hf := sm_bd hf
    obtain ⟨r4, q3, hf⟩ := hf
    refine w_callV [] [.ref 3] (tX2_everyHedge m r4 q3) (cvX11_273 rfl) dX11_open_21 rfl rfl (by decide) (by decide) rfl (Nat.le_of_ble_eq_true rfl) ?_
    show sm_W _ _ _ _ _ 24 [.ref 0, .retAddr 0] [.int r4, .ref 3] (sm_hp m)
    replace hf := sm_bd hf
    obtain ⟨r6, q5, hf⟩ := hf
    refine w_callV [.int r4] [] (tX2_oddCorners r4 m r6 q5) (cvX11_276 rfl) dX11_open_24 rfl rfl (by decide) (by decide) rfl (Nat.le_of_ble_eq_true rfl) ?_
    show sm_W _ _ _ _ _ 27 [.ref 0, .retAddr 0] [.int r6] (sm_hp m)
    refine w_if_ne (tgt := 34) dX11_open_27 rfl (fun hc => ?_) (fun hc => ?_)
    · replace hf := sm_iff hc hf
      refine w_blk bX11_open_34 [.ref 0, .retAddr 0] [.int (0 : Int32)] (sm_hp m) [] rfl (sm_on) ?_
      refine w_blk bX11_open_35 [.ref 0, .int (0 : Int32)] [.int (0 : Int32), .ref 3, .ref 26] (sm_hp m) [] rfl (sm_on) ?_
      refine w_if_eq (tgt := 52) dX11_open_45 rfl (fun _ => ?_) (fun hc => absurd hc (by decide))
      refine w_blk bX11_open_52 [.ref 0, .int (0 : Int32)] [.int (2 : Int32), .ref 3, .ref 26] (sm_hp m) [] rfl (sm_on) ?_
      refine w_blk bX11_open_53 [.ref 0, .int (0 : Int32)] [.ref 14, .int (2 : Int32), .ref 3, .ref 26] (sm_hp m) [] rfl (sm_on) ?_
      replace hf := sm_bd hf
      obtain ⟨r8, q7, hf⟩ := hf
      refine w_callV [.ref 3, .int (2 : Int32), .ref 14] [] (tX4_leastGrass (2 : Int32) m r8 q7) (cvX11_304 rfl) dX11_open_57 rfl rfl (by decide) (by decide) rfl (Nat.le_of_ble_eq_true rfl) ?_
      show sm_W _ _ _ _ _ 60 [.ref 0, .int (0 : Int32)] [.int r8.1] (sm_hp r8.2)
      obtain rfl := Option.some.inj hf
      exact w_reti dX11_open_60 rfl rfl
    · replace hf := sm_ift hc hf
      refine w_blk bX11_open_30 [.ref 0, .retAddr 0] [.int (1 : Int32)] (sm_hp m) [] rfl (sm_on) ?_
      refine w_goto (tgt := 35) dX11_open_31 rfl ?_
      refine w_blk bX11_open_35 [.ref 0, .int (1 : Int32)] [.int (1 : Int32), .ref 3, .ref 26] (sm_hp m) [] rfl (sm_on) ?_
      refine w_if_eq (tgt := 52) dX11_open_45 rfl (fun hc => absurd hc (by decide)) (fun _ => ?_)
      refine w_blk bX11_open_48 [.ref 0, .int (1 : Int32)] [.int (0 : Int32), .ref 3, .ref 26] (sm_hp m) [] rfl (sm_on) ?_
      refine w_goto (tgt := 53) dX11_open_49 rfl ?_
      refine w_blk bX11_open_53 [.ref 0, .int (1 : Int32)] [.ref 14, .int (0 : Int32), .ref 3, .ref 26] (sm_hp m) [] rfl (sm_on) ?_
      replace hf := sm_bd hf
      obtain ⟨r10, q9, hf⟩ := hf
      refine w_callV [.ref 3, .int (0 : Int32), .ref 14] [] (tX4_leastGrass (0 : Int32) m r10 q9) (cvX11_304 rfl) dX11_open_57 rfl rfl (by decide) (by decide) rfl (Nat.le_of_ble_eq_true rfl) ?_
      show sm_W _ _ _ _ _ 60 [.ref 0, .int (1 : Int32)] [.int r10.1] (sm_hp r10.2)
      obtain rfl := Option.some.inj hf
      exact w_reti dX11_open_60 rfl rfl
  · replace hf := sm_ift hc hf
    refine w_blk bX11_open_10 [.ref 0, .retAddr 0] [.int (-2 : Int32)] (sm_hp m) [] rfl (sm_on) ?_
    obtain rfl := Option.some.inj hf
    exact w_reti dX11_open_12 rfl rfl
set_option maxRecDepth 10000 in
theorem tX3_fillWithForever_2 {l : Launch} {al : Bool} : ∀ (n : Nat) (v1 : Int32) (v2 : Int32) (m : sm_S) (r : sm_S), fX3_fillWithForever_2 n v1 v2 m = some r → sm_W l mX3_fillWithForever 1 al (none, sm_hp r) 2 [.ref 32, .int v1, .int v2] [] (sm_hp m) := by
  intro n
  induction n with
  | zero =>
    intro v1 v2 m r hf
    unfold fX3_fillWithForever_2 at hf
    cases hf
  | succ n ih =>
    intro v1 v2 m r hf
    unfold fX3_fillWithForever_2 at hf
    refine w_blk bX3_fillWithForever_2 [.ref 32, .int v1, .int v2] [.int (v1 / (4 : Int32)), .int v2] (sm_hp m) [] rfl (sm_on) ?_
    refine w_icmp_gt (tgt := 33) dX3_fillWithForever_6 rfl (fun hc => ?_) (fun hc => ?_)
    · replace hf := sm_ift hc hf
      obtain rfl := Option.some.inj hf
      exact w_retv dX3_fillWithForever_33 rfl
    · replace hf := sm_iff hc hf
      refine w_blk bX3_fillWithForever_9 [.ref 32, .int v1, .int v2] [.int (Int32.ofNat 4097), .int v2] (sm_hp m) [] rfl (sm_on) ?_
      refine w_icmp_ge (tgt := 33) dX3_fillWithForever_15 rfl (fun hc => ?_) (fun hc => ?_)
      · replace hf := sm_ift hc hf
        obtain rfl := Option.some.inj hf
        exact w_retv dX3_fillWithForever_33 rfl
      · replace hf := sm_iff hc hf
        replace hf := sm_ck hf
        obtain ⟨q1, hf⟩ := hf
        refine w_blk bX3_fillWithForever_18 [.ref 32, .int v1, .int (v2 + (1 : Int32))] [] (sm_hp (sm_w2 m 33 (v2).toNatClampNeg (-1 : Int64))) [(v2, 4097)] rfl (sm_oc q1 (sm_on)) ?_
        refine w_goto (tgt := 2) dX3_fillWithForever_30 rfl ?_
        exact ih v1 (v2 + (1 : Int32)) (sm_w2 m 33 (v2).toNatClampNeg (-1 : Int64)) r hf
set_option maxRecDepth 10000 in
theorem tX3_fillWithForever {l : Launch} {al : Bool} (x1 : Int32) (m : sm_S) (r : sm_S) (hf : fX3_fillWithForever x1 m = some r) : sm_Rt l mX3_fillWithForever 1 0 0 al al [.ref 32, .int x1] (sm_hp m) (none, sm_hp r) := by
  refine sm_Rt.ofW (L := [.ref 32, .int x1, .retAddr 0]) (by decide) (Nat.le_of_ble_eq_true rfl) rfl ?_
  unfold fX3_fillWithForever at hf
  refine w_blk bX3_fillWithForever_0 [.ref 32, .int x1, .int (0 : Int32)] [] (sm_hp m) [] rfl (sm_on) ?_
  exact tX3_fillWithForever_2 sm_fu x1 (0 : Int32) m r hf
set_option maxRecDepth 10000 in
theorem tX3_put_i1 {l : Launch} {al : Bool} (x1 : Int32) (x2 : Int32) (m : sm_S) (r : sm_S) (hf : fX3_put_i1 x1 x2 m = some r) : sm_Rt l mX3_put 1 0 0 al al [.ref 32, .int x1, .int x2] (sm_hp m) (none, sm_hp r) := by
  refine sm_Rt.ofW (L := [.ref 32, .int x1, .int x2, .retAddr 0, .retAddr 0, .retAddr 0]) (by decide) (Nat.le_of_ble_eq_true rfl) rfl ?_
  unfold fX3_put_i1 at hf
  refine w_blk bX3_put_0 [.ref 32, .int x1, .int x2, .retAddr 0, .retAddr 0, .retAddr 0] [.int x1] (sm_hp m) [] rfl (sm_on) ?_
  refine w_if_lt (tgt := 58) dX3_put_1 rfl (fun hc => ?_) (fun hc => ?_)
  · replace hf := sm_ift hc hf
    obtain rfl := Option.some.inj hf
    exact w_retv dX3_put_58 rfl
  · replace hf := sm_iff hc hf
    refine w_blk bX3_put_4 [.ref 32, .int x1, .int x2, .retAddr 0, .retAddr 0, .retAddr 0] [.int (m.1 32 0), .int x1] (sm_hp m) [] rfl (sm_on) ?_
    refine w_icmp_ge (tgt := 58) dX3_put_9 rfl (fun hc => ?_) (fun hc => ?_)
    · replace hf := sm_ift hc hf
      obtain rfl := Option.some.inj hf
      exact w_retv dX3_put_58 rfl
    · replace hf := sm_iff hc hf
      replace hf := sm_ck hf
      obtain ⟨q1, hf⟩ := hf
      replace hf := sm_ck hf
      obtain ⟨q2, hf⟩ := hf
      refine w_blk bX3_put_12 [.ref 32, .int x1, .int x2, .int ((x1 &&& (3 : Int32)) <<< ((4 : Int32) &&& 31)), .long ((m.2 33 (x1 >>> ((2 : Int32) &&& 31)).toNatClampNeg) &&& (((65535 : Int64) <<< ((((x1 &&& (3 : Int32)) <<< ((4 : Int32) &&& 31))).toInt64 &&& 63)) ^^^ (-1 : Int64))), .retAddr 0] [] (sm_hp (sm_w2 m 33 (x1 >>> ((2 : Int32) &&& 31)).toNatClampNeg (((m.2 33 (x1 >>> ((2 : Int32) &&& 31)).toNatClampNeg) &&& (((65535 : Int64) <<< ((((x1 &&& (3 : Int32)) <<< ((4 : Int32) &&& 31))).toInt64 &&& 63)) ^^^ (-1 : Int64))) ||| (((if (65535 : Int32) < x2 then (65535 : Int32) else x2)).toInt64 <<< ((((x1 &&& (3 : Int32)) <<< ((4 : Int32) &&& 31))).toInt64 &&& 63))))) [((x1 >>> ((2 : Int32) &&& 31)), 4097), ((x1 >>> ((2 : Int32) &&& 31)), 4097)] rfl (sm_oc q1 (sm_oc q2 (sm_on))) ?_
      obtain rfl := Option.some.inj hf
      exact w_retv dX3_put_58 rfl
set_option maxRecDepth 10000 in
theorem tX3_at_i1 {l : Launch} {al : Bool} (x1 : Int32) (m : sm_S) (r : Int32) (hf : fX3_at_i1 x1 m = some r) : sm_Rt l mX3_at 1 0 0 al al [.ref 32, .int x1] (sm_hp m) (some (.int r), sm_hp m) := by
  refine sm_Rt.ofW (L := [.ref 32, .int x1]) (by decide) (Nat.le_of_ble_eq_true rfl) rfl ?_
  unfold fX3_at_i1 at hf
  refine w_blk bX3_at_0 [.ref 32, .int x1] [.int x1] (sm_hp m) [] rfl (sm_on) ?_
  refine w_if_lt (tgt := 12) dX3_at_1 rfl (fun hc => ?_) (fun hc => ?_)
  · replace hf := sm_ift hc hf
    refine w_blk bX3_at_12 [.ref 32, .int x1] [.int (65535 : Int32)] (sm_hp m) [] rfl (sm_on) ?_
    obtain rfl := Option.some.inj hf
    exact w_reti dX3_at_14 rfl rfl
  · replace hf := sm_iff hc hf
    refine w_blk bX3_at_4 [.ref 32, .int x1] [.int (m.1 32 0), .int x1] (sm_hp m) [] rfl (sm_on) ?_
    refine w_icmp_lt (tgt := 15) dX3_at_9 rfl (fun hc => ?_) (fun hc => ?_)
    · replace hf := sm_ift hc hf
      replace hf := sm_ck hf
      obtain ⟨q1, hf⟩ := hf
      refine w_blk bX3_at_15 [.ref 32, .int x1] [.int ((((m.2 33 (x1 >>> ((2 : Int32) &&& 31)).toNatClampNeg) >>> ((((x1 &&& (3 : Int32)) <<< ((4 : Int32) &&& 31))).toInt64 &&& 63))).toInt32 &&& (65535 : Int32))] (sm_hp m) [((x1 >>> ((2 : Int32) &&& 31)), 4097)] rfl (sm_oc q1 (sm_on)) ?_
      obtain rfl := Option.some.inj hf
      exact w_reti dX3_at_33 rfl rfl
    · replace hf := sm_iff hc hf
      refine w_blk bX3_at_12 [.ref 32, .int x1] [.int (65535 : Int32)] (sm_hp m) [] rfl (sm_on) ?_
      obtain rfl := Option.some.inj hf
      exact w_reti dX3_at_14 rfl rfl
set_option maxRecDepth 10000 in
theorem tX10_extend_14 {l : Launch} {al : Bool} : ∀ (n : Nat) (v2 : Int32) (v4 : Int32) (v5 : Int32) (v6 : Int32) (v7 : Int32) (m : sm_S) (r : sm_S), fX10_extend_14 n v2 v4 v5 v6 v7 m = some r → sm_W l mX10_extend 2 al (none, sm_hp r) 14 [.ref 31, .ref 3, .int v2, .retAddr 0, .int v4, .int v5, .int v6, .int v7, .retAddr 0, .retAddr 0, .retAddr 0] [] (sm_hp m) := by
  intro n
  induction n with
  | zero =>
    intro v2 v4 v5 v6 v7 m r hf
    unfold fX10_extend_14 at hf
    cases hf
  | succ n ih =>
    intro v2 v4 v5 v6 v7 m r hf
    unfold fX10_extend_14 at hf
    refine w_blk bX10_extend_14 [.ref 31, .ref 3, .int v2, .retAddr 0, .int v4, .int v5, .int v6, .int v7, .retAddr 0, .retAddr 0, .retAddr 0] [.int (m.1 3 1), .int v7] (sm_hp m) [] rfl (sm_on) ?_
    refine w_icmp_ge (tgt := 117) dX10_extend_20 rfl (fun hc => ?_) (fun hc => ?_)
    · replace hf := sm_ift hc hf
      obtain rfl := Option.some.inj hf
      exact w_retv dX10_extend_117 rfl
    · replace hf := sm_iff hc hf
      refine w_blk bX10_extend_23 [.ref 31, .ref 3, .int v2, .retAddr 0, .int v4, .int v5, .int v6, .int v7, .retAddr 0, .retAddr 0, .retAddr 0] [.int ((v2 >>> (v7 &&& 31)) &&& (1 : Int32))] (sm_hp m) [] rfl (sm_on) ?_
      refine w_if_ne (tgt := 111) dX10_extend_29 rfl (fun hc => ?_) (fun hc => ?_)
      · replace hf := sm_iff hc hf
        refine w_blk bX10_extend_111 [.ref 31, .ref 3, .int v2, .retAddr 0, .int v4, .int v5, .int v6, .int (v7 + (1 : Int32)), .retAddr 0, .retAddr 0, .retAddr 0] [] (sm_hp m) [] rfl (sm_on) ?_
        refine w_goto (tgt := 14) dX10_extend_114 rfl ?_
        exact ih v2 v4 v5 v6 (v7 + (1 : Int32)) m r hf
      · replace hf := sm_ift hc hf
        refine w_blk bX10_extend_32 [.ref 31, .ref 3, .int v2, .retAddr 0, .int v4, .int v5, .int v6, .int v7, .retAddr 0, .retAddr 0, .retAddr 0] [.int v5, .int v7, .ref 3] (sm_hp m) [] rfl (sm_on) ?_
        replace hf := sm_bd hf
        obtain ⟨r2, q1, hf⟩ := hf
        refine w_callV [.int v7, .int v5] [] (tX2_touches v7 v5 m r2 q1) (cvX10_45 rfl) dX10_extend_37 rfl rfl (by decide) (by decide) rfl (Nat.le_of_ble_eq_true rfl) ?_
        show sm_W _ _ _ _ _ 40 [.ref 31, .ref 3, .int v2, .retAddr 0, .int v4, .int v5, .int v6, .int v7, .retAddr 0, .retAddr 0, .retAddr 0] [.int r2] (sm_hp m)
        refine w_if_eq (tgt := 111) dX10_extend_40 rfl (fun hc => ?_) (fun hc => ?_)
        · replace hf := sm_ift hc hf
          refine w_blk bX10_extend_111 [.ref 31, .ref 3, .int v2, .retAddr 0, .int v4, .int v5, .int v6, .int (v7 + (1 : Int32)), .retAddr 0, .retAddr 0, .retAddr 0] [] (sm_hp m) [] rfl (sm_on) ?_
          refine w_goto (tgt := 14) dX10_extend_114 rfl ?_
          exact ih v2 v4 v5 v6 (v7 + (1 : Int32)) m r hf
        · replace hf := sm_iff hc hf
          refine w_blk bX10_extend_43 [.ref 31, .ref 3, .int v2, .retAddr 0, .int v4, .int v5, .int v6, .int v7, .retAddr 0, .retAddr 0, .retAddr 0] [.int v5, .int v7, .ref 3, .int v6] (sm_hp m) [] rfl (sm_on) ?_
          replace hf := sm_bd hf
          obtain ⟨r4, q3, hf⟩ := hf
          refine w_callV [.int v7, .int v5] [.int v6] (tX2_minutesFrom v7 v5 m r4 q3) (cvX10_49 rfl) dX10_extend_50 rfl rfl (by decide) (by decide) rfl (Nat.le_of_ble_eq_true rfl) ?_
          show sm_W _ _ _ _ _ 53 [.ref 31, .ref 3, .int v2, .retAddr 0, .int v4, .int v5, .int v6, .int v7, .retAddr 0, .retAddr 0, .retAddr 0] [.int r4, .int v6] (sm_hp m)
          refine w_blk bX10_extend_53 [.ref 31, .ref 3, .int v2, .retAddr 0, .int v4, .int v5, .int v6, .int v7, .int (v6 + r4), .retAddr 0, .retAddr 0] [.int v5, .int v7, .ref 3, .int ((v6 + r4) <<< ((4 : Int32) &&& 31))] (sm_hp m) [] rfl (sm_on) ?_
          replace hf := sm_bd hf
          obtain ⟨r6, q5, hf⟩ := hf
          refine w_callV [.int v7, .int v5] [.int ((v6 + r4) <<< ((4 : Int32) &&& 31))] (tX2_otherEnd v7 v5 m r6 q5) (cvX10_53 rfl) dX10_extend_65 rfl rfl (by decide) (by decide) rfl (Nat.le_of_ble_eq_true rfl) ?_
          show sm_W _ _ _ _ _ 68 [.ref 31, .ref 3, .int v2, .retAddr 0, .int v4, .int v5, .int v6, .int v7, .int (v6 + r4), .retAddr 0, .retAddr 0] [.int r6, .int ((v6 + r4) <<< ((4 : Int32) &&& 31))] (sm_hp m)
          refine w_blk bX10_extend_68 [.ref 31, .ref 3, .int v2, .retAddr 0, .int v4, .int v5, .int v6, .int v7, .int (v6 + r4), .int (((v6 + r4) <<< ((4 : Int32) &&& 31)) ||| r6), .int (v2 ||| ((1 : Int32) <<< (v7 &&& 31)))] [.int v4, .int (v6 + r4)] (sm_hp m) [] rfl (sm_on) ?_
          refine w_icmp_gt (tgt := 111) dX10_extend_83 rfl (fun hc => ?_) (fun hc => ?_)
          · replace hf := sm_ift hc hf
            refine w_blk bX10_extend_111 [.ref 31, .ref 3, .int v2, .retAddr 0, .int v4, .int v5, .int v6, .int (v7 + (1 : Int32)), .int (v6 + r4), .int (((v6 + r4) <<< ((4 : Int32) &&& 31)) ||| r6), .int (v2 ||| ((1 : Int32) <<< (v7 &&& 31)))] [] (sm_hp m) [] rfl (sm_on) ?_
            refine w_goto (tgt := 14) dX10_extend_114 rfl ?_
            refine w_wk [true, true, true, false, true, true, true, true, false, false, false] ?_
            exact ih v2 v4 v5 v6 (v7 + (1 : Int32)) m r hf
          · replace hf := sm_iff hc hf
            refine w_blk bX10_extend_86 [.ref 31, .ref 3, .int v2, .retAddr 0, .int v4, .int v5, .int v6, .int v7, .int (v6 + r4), .int (((v6 + r4) <<< ((4 : Int32) &&& 31)) ||| r6), .int (v2 ||| ((1 : Int32) <<< (v7 &&& 31)))] [.int (v2 ||| ((1 : Int32) <<< (v7 &&& 31))), .ref 32, .int (((v6 + r4) <<< ((4 : Int32) &&& 31)) ||| r6)] (sm_hp m) [] rfl (sm_on) ?_
            replace hf := sm_bd hf
            obtain ⟨r8, q7, hf⟩ := hf
            refine w_callV [.int (v2 ||| ((1 : Int32) <<< (v7 &&& 31)))] [.int (((v6 + r4) <<< ((4 : Int32) &&& 31)) ||| r6)] (tX3_at_i1 (v2 ||| ((1 : Int32) <<< (v7 &&& 31))) m r8 q7) (cvX10_36 rfl) dX10_extend_94 rfl rfl (by decide) (by decide) rfl (Nat.le_of_ble_eq_true rfl) ?_
            show sm_W _ _ _ _ _ 97 [.ref 31, .ref 3, .int v2, .retAddr 0, .int v4, .int v5, .int v6, .int v7, .int (v6 + r4), .int (((v6 + r4) <<< ((4 : Int32) &&& 31)) ||| r6), .int (v2 ||| ((1 : Int32) <<< (v7 &&& 31)))] [.int r8, .int (((v6 + r4) <<< ((4 : Int32) &&& 31)) ||| r6)] (sm_hp m)
            refine w_icmp_ge (tgt := 111) dX10_extend_97 rfl (fun hc => ?_) (fun hc => ?_)
            · replace hf := sm_ift hc hf
              refine w_blk bX10_extend_111 [.ref 31, .ref 3, .int v2, .retAddr 0, .int v4, .int v5, .int v6, .int (v7 + (1 : Int32)), .int (v6 + r4), .int (((v6 + r4) <<< ((4 : Int32) &&& 31)) ||| r6), .int (v2 ||| ((1 : Int32) <<< (v7 &&& 31)))] [] (sm_hp m) [] rfl (sm_on) ?_
              refine w_goto (tgt := 14) dX10_extend_114 rfl ?_
              refine w_wk [true, true, true, false, true, true, true, true, false, false, false] ?_
              exact ih v2 v4 v5 v6 (v7 + (1 : Int32)) m r hf
            · replace hf := sm_iff hc hf
              refine w_blk bX10_extend_100 [.ref 31, .ref 3, .int v2, .retAddr 0, .int v4, .int v5, .int v6, .int v7, .int (v6 + r4), .int (((v6 + r4) <<< ((4 : Int32) &&& 31)) ||| r6), .int (v2 ||| ((1 : Int32) <<< (v7 &&& 31)))] [.int (((v6 + r4) <<< ((4 : Int32) &&& 31)) ||| r6), .int (v2 ||| ((1 : Int32) <<< (v7 &&& 31))), .ref 32] (sm_hp m) [] rfl (sm_on) ?_
              replace hf := sm_bd hf
              obtain ⟨m10, q9, hf⟩ := hf
              refine w_callV [.int (v2 ||| ((1 : Int32) <<< (v7 &&& 31))), .int (((v6 + r4) <<< ((4 : Int32) &&& 31)) ||| r6)] [] (tX3_put_i1 (v2 ||| ((1 : Int32) <<< (v7 &&& 31))) (((v6 + r4) <<< ((4 : Int32) &&& 31)) ||| r6) m m10 q9) (cvX10_32 rfl) dX10_extend_108 rfl rfl (by decide) (by decide) rfl (Nat.le_of_ble_eq_true rfl) ?_
              show sm_W _ _ _ _ _ 111 [.ref 31, .ref 3, .int v2, .retAddr 0, .int v4, .int v5, .int v6, .int v7, .int (v6 + r4), .int (((v6 + r4) <<< ((4 : Int32) &&& 31)) ||| r6), .int (v2 ||| ((1 : Int32) <<< (v7 &&& 31)))] [] (sm_hp m10)
              refine w_blk bX10_extend_111 [.ref 31, .ref 3, .int v2, .retAddr 0, .int v4, .int v5, .int v6, .int (v7 + (1 : Int32)), .int (v6 + r4), .int (((v6 + r4) <<< ((4 : Int32) &&& 31)) ||| r6), .int (v2 ||| ((1 : Int32) <<< (v7 &&& 31)))] [] (sm_hp m10) [] rfl (sm_on) ?_
              refine w_goto (tgt := 14) dX10_extend_114 rfl ?_
              refine w_wk [true, true, true, false, true, true, true, true, false, false, false] ?_
              exact ih v2 v4 v5 v6 (v7 + (1 : Int32)) m10 r hf
set_option maxRecDepth 10000 in
theorem tX10_extend {l : Launch} {al : Bool} (x1 : Int32) (x2 : Int32) (x3 : Int32) (m : sm_S) (r : sm_S) (hf : fX10_extend x1 x2 x3 m = some r) : sm_Rt l mX10_extend 2 0 0 al al [.ref 31, .ref 3, .int x1, .int x2, .int x3] (sm_hp m) (none, sm_hp r) := by
  refine sm_Rt.ofW (L := [.ref 31, .ref 3, .int x1, .int x2, .int x3, .retAddr 0, .retAddr 0, .retAddr 0, .retAddr 0, .retAddr 0, .retAddr 0]) (by decide) (Nat.le_of_ble_eq_true rfl) rfl ?_
  unfold fX10_extend at hf
  refine w_blk bX10_extend_0 [.ref 31, .ref 3, .int x1, .int x2, .int x3, .int (x2 &&& (15 : Int32)), .int (x2 >>> ((4 : Int32) &&& 31)), .int (0 : Int32), .retAddr 0, .retAddr 0, .retAddr 0] [] (sm_hp m) [] rfl (sm_on) ?_
  refine w_wk [true, true, true, false, true, true, true, true, false, false, false] ?_
  exact tX10_extend_14 sm_fu x1 x3 (x2 &&& (15 : Int32)) (x2 >>> ((4 : Int32) &&& 31)) (0 : Int32) m r hf
set_option maxRecDepth 10000 in
theorem tX10_explore_33 {l : Launch} {al : Bool} : ∀ (n : Nat) (v3 : Int32) (v4 : Int32) (m : sm_S) (r : sm_S), fX10_explore_33 n v3 v4 m = some r → sm_W l mX10_explore 3 al (none, sm_hp r) 33 [.ref 31, .ref 3, .retAddr 0, .int v3, .int v4, .retAddr 0] [] (sm_hp m) := by
  intro n
  induction n with
  | zero =>
    intro v3 v4 m r hf
    unfold fX10_explore_33 at hf
    cases hf
  | succ n ih =>
    intro v3 v4 m r hf
    unfold fX10_explore_33 at hf
    refine w_blk bX10_explore_33 [.ref 31, .ref 3, .retAddr 0, .int v3, .int v4, .retAddr 0] [.int (m.1 31 1), .int v4] (sm_hp m) [] rfl (sm_on) ?_
    refine w_icmp_ge (tgt := 76) dX10_explore_39 rfl (fun hc => ?_) (fun hc => ?_)
    · replace hf := sm_ift hc hf
      obtain rfl := Option.some.inj hf
      exact w_retv dX10_explore_76 rfl
    · replace hf := sm_iff hc hf
      refine w_blk bX10_explore_42 [.ref 31, .ref 3, .retAddr 0, .int v3, .int v4, .retAddr 0] [.int v4, .ref 32] (sm_hp m) [] rfl (sm_on) ?_
      replace hf := sm_bd hf
      obtain ⟨r6, q5, hf⟩ := hf
      refine w_callV [.int v4] [] (tX3_at_i1 v4 m r6 q5) (cvX10_36 rfl) dX10_explore_48 rfl rfl (by decide) (by decide) rfl (Nat.le_of_ble_eq_true rfl) ?_
      show sm_W _ _ _ _ _ 51 [.ref 31, .ref 3, .retAddr 0, .int v3, .int v4, .retAddr 0] [.int r6] (sm_hp m)
      refine w_blk bX10_explore_51 [.ref 31, .ref 3, .retAddr 0, .int v3, .int v4, .int r6] [.int (65535 : Int32), .int r6] (sm_hp m) [] rfl (sm_on) ?_
      refine w_icmp_ge (tgt := 70) dX10_explore_57 rfl (fun hc => ?_) (fun hc => ?_)
      · replace hf := sm_ift hc hf
        refine w_blk bX10_explore_70 [.ref 31, .ref 3, .retAddr 0, .int v3, .int (v4 + (1 : Int32)), .int r6] [] (sm_hp m) [] rfl (sm_on) ?_
        refine w_goto (tgt := 33) dX10_explore_73 rfl ?_
        refine w_wk [true, true, false, true, true, false] ?_
        exact ih v3 (v4 + (1 : Int32)) m r hf
      · replace hf := sm_iff hc hf
        refine w_blk bX10_explore_60 [.ref 31, .ref 3, .retAddr 0, .int v3, .int v4, .int r6] [.int v3, .int r6, .int v4, .ref 3, .ref 31] (sm_hp m) [] rfl (sm_on) ?_
        replace hf := sm_bd hf
        obtain ⟨m8, q7, hf⟩ := hf
        refine w_callV [.ref 3, .int v4, .int r6, .int v3] [] (tX10_extend v4 r6 v3 m m8 q7) (cvX10_41 rfl) dX10_explore_67 rfl rfl (by decide) (by decide) rfl (Nat.le_of_ble_eq_true rfl) ?_
        show sm_W _ _ _ _ _ 70 [.ref 31, .ref 3, .retAddr 0, .int v3, .int v4, .int r6] [] (sm_hp m8)
        refine w_blk bX10_explore_70 [.ref 31, .ref 3, .retAddr 0, .int v3, .int (v4 + (1 : Int32)), .int r6] [] (sm_hp m8) [] rfl (sm_on) ?_
        refine w_goto (tgt := 33) dX10_explore_73 rfl ?_
        refine w_wk [true, true, false, true, true, false] ?_
        exact ih v3 (v4 + (1 : Int32)) m8 r hf
set_option maxRecDepth 10000 in
theorem tX10_explore {l : Launch} {al : Bool} (x1 : Int32) (x2 : Int32) (m : sm_S) (r : sm_S) (hf : fX10_explore x1 x2 m = some r) : sm_Rt l mX10_explore 3 0 0 al al [.ref 31, .ref 3, .int x1, .int x2] (sm_hp m) (none, sm_hp r) := by
  refine sm_Rt.ofW (L := [.ref 31, .ref 3, .int x1, .int x2, .retAddr 0, .retAddr 0]) (by decide) (Nat.le_of_ble_eq_true rfl) rfl ?_
  unfold fX10_explore at hf
  refine w_blk bX10_explore_0 [.ref 31, .ref 3, .int x1, .int x2, .retAddr 0, .retAddr 0] [.int ((1 : Int32) <<< ((m.1 3 1) &&& 31)), .ref 32] (sm_hp (sm_w1 m 31 1 ((1 : Int32) <<< ((m.1 3 1) &&& 31)))) [] rfl (sm_on) ?_
  replace hf := sm_bd hf
  obtain ⟨m2, q1, hf⟩ := hf
  refine w_callV [.int ((1 : Int32) <<< ((m.1 3 1) &&& 31))] [] (tX3_fillWithForever ((1 : Int32) <<< ((m.1 3 1) &&& 31)) (sm_w1 m 31 1 ((1 : Int32) <<< ((m.1 3 1) &&& 31))) m2 q1) (cvX10_29 rfl) dX10_explore_18 rfl rfl (by decide) (by decide) rfl (Nat.le_of_ble_eq_true rfl) ?_
  show sm_W _ _ _ _ _ 21 [.ref 31, .ref 3, .int x1, .int x2, .retAddr 0, .retAddr 0] [] (sm_hp m2)
  refine w_blk bX10_explore_21 [.ref 31, .ref 3, .int x1, .int x2, .retAddr 0, .retAddr 0] [.int x1, .int (0 : Int32), .ref 32] (sm_hp m2) [] rfl (sm_on) ?_
  replace hf := sm_bd hf
  obtain ⟨m4, q3, hf⟩ := hf
  refine w_callV [.int (0 : Int32), .int x1] [] (tX3_put_i1 (0 : Int32) x1 m2 m4 q3) (cvX10_32 rfl) dX10_explore_27 rfl rfl (by decide) (by decide) rfl (Nat.le_of_ble_eq_true rfl) ?_
  show sm_W _ _ _ _ _ 30 [.ref 31, .ref 3, .int x1, .int x2, .retAddr 0, .retAddr 0] [] (sm_hp m4)
  refine w_blk bX10_explore_30 [.ref 31, .ref 3, .int x1, .int x2, .int (0 : Int32), .retAddr 0] [] (sm_hp m4) [] rfl (sm_on) ?_
  refine w_wk [true, true, false, true, true, false] ?_
  exact tX10_explore_33 sm_fu x2 (0 : Int32) m4 r hf
set_option maxRecDepth 10000 in
theorem tX2_worthOf_4 {l : Launch} {al : Bool} : ∀ (n : Nat) (v1 : Int32) (v2 : Int32) (v3 : Int32) (m : sm_S) (r : Int32), fX2_worthOf_4 n v1 v2 v3 m = some r → sm_W l mX2_worthOf 1 al (some (.int r), sm_hp m) 4 [.ref 3, .int v1, .int v2, .int v3] [] (sm_hp m) := by
  intro n
  induction n with
  | zero =>
    intro v1 v2 v3 m r hf
    unfold fX2_worthOf_4 at hf
    cases hf
  | succ n ih =>
    intro v1 v2 v3 m r hf
    unfold fX2_worthOf_4 at hf
    refine w_blk bX2_worthOf_4 [.ref 3, .int v1, .int v2, .int v3] [.int (m.1 3 1), .int v3] (sm_hp m) [] rfl (sm_on) ?_
    refine w_icmp_ge (tgt := 35) dX2_worthOf_9 rfl (fun hc => ?_) (fun hc => ?_)
    · replace hf := sm_ift hc hf
      refine w_blk bX2_worthOf_35 [.ref 3, .int v1, .int v2, .int v3] [.int v2] (sm_hp m) [] rfl (sm_on) ?_
      obtain rfl := Option.some.inj hf
      exact w_reti dX2_worthOf_36 rfl rfl
    · replace hf := sm_iff hc hf
      refine w_blk bX2_worthOf_12 [.ref 3, .int v1, .int v2, .int v3] [.int ((v1 >>> (v3 &&& 31)) &&& (1 : Int32))] (sm_hp m) [] rfl (sm_on) ?_
      refine w_if_eq (tgt := 29) dX2_worthOf_17 rfl (fun hc => ?_) (fun hc => ?_)
      · replace hf := sm_ift hc hf
        refine w_blk bX2_worthOf_29 [.ref 3, .int v1, .int v2, .int (v3 + (1 : Int32))] [] (sm_hp m) [] rfl (sm_on) ?_
        refine w_goto (tgt := 4) dX2_worthOf_32 rfl ?_
        exact ih v1 v2 (v3 + (1 : Int32)) m r hf
      · replace hf := sm_iff hc hf
        replace hf := sm_ck hf
        obtain ⟨q1, hf⟩ := hf
        refine w_blk bX2_worthOf_20 [.ref 3, .int v1, .int (v2 + (m.1 11 (v3).toNatClampNeg)), .int v3] [] (sm_hp m) [(v3, 14)] rfl (sm_oc q1 (sm_on)) ?_
        refine w_blk bX2_worthOf_29 [.ref 3, .int v1, .int (v2 + (m.1 11 (v3).toNatClampNeg)), .int (v3 + (1 : Int32))] [] (sm_hp m) [] rfl (sm_on) ?_
        refine w_goto (tgt := 4) dX2_worthOf_32 rfl ?_
        exact ih v1 (v2 + (m.1 11 (v3).toNatClampNeg)) (v3 + (1 : Int32)) m r hf
set_option maxRecDepth 10000 in
theorem tX2_worthOf {l : Launch} {al : Bool} (x1 : Int32) (m : sm_S) (r : Int32) (hf : fX2_worthOf x1 m = some r) : sm_Rt l mX2_worthOf 1 0 0 al al [.ref 3, .int x1] (sm_hp m) (some (.int r), sm_hp m) := by
  refine sm_Rt.ofW (L := [.ref 3, .int x1, .retAddr 0, .retAddr 0]) (by decide) (Nat.le_of_ble_eq_true rfl) rfl ?_
  unfold fX2_worthOf at hf
  refine w_blk bX2_worthOf_0 [.ref 3, .int x1, .int (0 : Int32), .int (0 : Int32)] [] (sm_hp m) [] rfl (sm_on) ?_
  exact tX2_worthOf_4 sm_fu x1 (0 : Int32) (0 : Int32) m r hf
set_option maxRecDepth 10000 in
theorem tX10_minutesOf {l : Launch} {al : Bool} (x1 : Int32) (m : sm_S) (r : Int32) (hf : fX10_minutesOf x1 m = some r) : sm_Rt l mX10_minutesOf 2 0 0 al al [.ref 31, .int x1] (sm_hp m) (some (.int r), sm_hp m) := by
  refine sm_Rt.ofW (L := [.ref 31, .int x1]) (by decide) (Nat.le_of_ble_eq_true rfl) rfl ?_
  unfold fX10_minutesOf at hf
  refine w_blk bX10_minutesOf_0 [.ref 31, .int x1] [.int x1, .ref 32] (sm_hp m) [] rfl (sm_on) ?_
  replace hf := sm_bd hf
  obtain ⟨r2, q1, hf⟩ := hf
  refine w_callV [.int x1] [] (tX3_at_i1 x1 m r2 q1) (cvX10_36 rfl) dX10_minutesOf_5 rfl rfl (by decide) (by decide) rfl (Nat.le_of_ble_eq_true rfl) ?_
  show sm_W _ _ _ _ _ 8 [.ref 31, .int x1] [.int r2] (sm_hp m)
  refine w_blk bX10_minutesOf_8 [.ref 31, .int x1] [.int (r2 >>> ((4 : Int32) &&& 31))] (sm_hp m) [] rfl (sm_on) ?_
  obtain rfl := Option.some.inj hf
  exact w_reti dX10_minutesOf_10 rfl rfl
set_option maxRecDepth 10000 in
theorem tX10_dearest_9 {l : Launch} {al : Bool} : ∀ (n : Nat) (v2 : Int32) (v3 : Int32) (v4 : Int32) (v5 : Int32) (v6 : Int32) (m : sm_S) (r : Int32), fX10_dearest_9 n v2 v3 v4 v5 v6 m = some r → sm_W l mX10_dearest 3 al (some (.int r), sm_hp m) 9 [.ref 31, .ref 3, .int v2, .int v3, .int v4, .int v5, .int v6, .retAddr 0, .retAddr 0] [] (sm_hp m) := by
  intro n
  induction n with
  | zero =>
    intro v2 v3 v4 v5 v6 m r hf
    unfold fX10_dearest_9 at hf
    cases hf
  | succ n ih =>
    intro v2 v3 v4 v5 v6 m r hf
    unfold fX10_dearest_9 at hf
    refine w_blk bX10_dearest_9 [.ref 31, .ref 3, .int v2, .int v3, .int v4, .int v5, .int v6, .retAddr 0, .retAddr 0] [.int (m.1 31 1), .int v6] (sm_hp m) [] rfl (sm_on) ?_
    refine w_icmp_ge (tgt := 100) dX10_dearest_15 rfl (fun hc => ?_) (fun hc => ?_)
    · replace hf := sm_ift hc hf
      refine w_blk bX10_dearest_100 [.ref 31, .ref 3, .int v2, .int v3, .int v4, .int v5, .int v6, .retAddr 0, .retAddr 0] [.int v4] (sm_hp m) [] rfl (sm_on) ?_
      obtain rfl := Option.some.inj hf
      exact w_reti dX10_dearest_102 rfl rfl
    · replace hf := sm_iff hc hf
      refine w_blk bX10_dearest_18 [.ref 31, .ref 3, .int v2, .int v3, .int v4, .int v5, .int v6, .retAddr 0, .retAddr 0] [.int v6, .ref 32] (sm_hp m) [] rfl (sm_on) ?_
      replace hf := sm_bd hf
      obtain ⟨r2, q1, hf⟩ := hf
      refine w_callV [.int v6] [] (tX3_at_i1 v6 m r2 q1) (cvX10_36 rfl) dX10_dearest_24 rfl rfl (by decide) (by decide) rfl (Nat.le_of_ble_eq_true rfl) ?_
      show sm_W _ _ _ _ _ 27 [.ref 31, .ref 3, .int v2, .int v3, .int v4, .int v5, .int v6, .retAddr 0, .retAddr 0] [.int r2] (sm_hp m)
      refine w_blk bX10_dearest_27 [.ref 31, .ref 3, .int v2, .int v3, .int v4, .int v5, .int v6, .int r2, .retAddr 0] [.int (65535 : Int32), .int r2] (sm_hp m) [] rfl (sm_on) ?_
      refine w_icmp_ge (tgt := 94) dX10_dearest_33 rfl (fun hc => ?_) (fun hc => ?_)
      · replace hf := sm_ift hc hf
        refine w_blk bX10_dearest_94 [.ref 31, .ref 3, .int v2, .int v3, .int v4, .int v5, .int (v6 + (1 : Int32)), .int r2, .retAddr 0] [] (sm_hp m) [] rfl (sm_on) ?_
        refine w_goto (tgt := 9) dX10_dearest_97 rfl ?_
        refine w_wk [true, true, true, true, true, true, true, false, false] ?_
        exact ih v2 v3 v4 v5 (v6 + (1 : Int32)) m r hf
      · replace hf := sm_iff hc hf
        refine w_blk bX10_dearest_36 [.ref 31, .ref 3, .int v2, .int v3, .int v4, .int v5, .int v6, .int r2, .retAddr 0] [.int v3] (sm_hp m) [] rfl (sm_on) ?_
        refine w_if_eq (tgt := 49) dX10_dearest_37 rfl (fun hc => ?_) (fun hc => ?_)
        · replace hf := sm_ift hc hf
          refine w_blk bX10_dearest_49 [.ref 31, .ref 3, .int v2, .int v3, .int v4, .int v5, .int v6, .int r2, .retAddr 0] [.int v6, .ref 3] (sm_hp m) [] rfl (sm_on) ?_
          replace hf := sm_bd hf
          obtain ⟨r4, q3, hf⟩ := hf
          refine w_callV [.int v6] [] (tX2_worthOf v6 m r4 q3) (cvX10_56 rfl) dX10_dearest_52 rfl rfl (by decide) (by decide) rfl (Nat.le_of_ble_eq_true rfl) ?_
          show sm_W _ _ _ _ _ 55 [.ref 31, .ref 3, .int v2, .int v3, .int v4, .int v5, .int v6, .int r2, .retAddr 0] [.int r4] (sm_hp m)
          refine w_blk bX10_dearest_55 [.ref 31, .ref 3, .int v2, .int v3, .int v4, .int v5, .int v6, .int r2, .int r4] [.int v5, .int r4] (sm_hp m) [] rfl (sm_on) ?_
          refine w_icmp_gt (tgt := 86) dX10_dearest_61 rfl (fun hc => ?_) (fun hc => ?_)
          · replace hf := sm_ift hc hf
            refine w_blk bX10_dearest_86 [.ref 31, .ref 3, .int v2, .int v3, .int v6, .int r4, .int v6, .int r2, .int r4] [] (sm_hp m) [] rfl (sm_on) ?_
            refine w_blk bX10_dearest_94 [.ref 31, .ref 3, .int v2, .int v3, .int v6, .int r4, .int (v6 + (1 : Int32)), .int r2, .int r4] [] (sm_hp m) [] rfl (sm_on) ?_
            refine w_goto (tgt := 9) dX10_dearest_97 rfl ?_
            refine w_wk [true, true, true, true, true, true, true, false, false] ?_
            exact ih v2 v3 v6 r4 (v6 + (1 : Int32)) m r hf
          · replace hf := sm_iff hc hf
            refine w_blk bX10_dearest_64 [.ref 31, .ref 3, .int v2, .int v3, .int v4, .int v5, .int v6, .int r2, .int r4] [.int v5, .int r4] (sm_hp m) [] rfl (sm_on) ?_
            refine w_icmp_ne (tgt := 94) dX10_dearest_68 rfl (fun hc => ?_) (fun hc => ?_)
            · replace hf := sm_iff hc hf
              refine w_blk bX10_dearest_94 [.ref 31, .ref 3, .int v2, .int v3, .int v4, .int v5, .int (v6 + (1 : Int32)), .int r2, .int r4] [] (sm_hp m) [] rfl (sm_on) ?_
              refine w_goto (tgt := 9) dX10_dearest_97 rfl ?_
              refine w_wk [true, true, true, true, true, true, true, false, false] ?_
              exact ih v2 v3 v4 v5 (v6 + (1 : Int32)) m r hf
            · replace hf := sm_ift hc hf
              refine w_blk bX10_dearest_71 [.ref 31, .ref 3, .int v2, .int v3, .int v4, .int v5, .int v6, .int r2, .int r4] [.int v6, .ref 31] (sm_hp m) [] rfl (sm_on) ?_
              replace hf := sm_bd hf
              obtain ⟨r6, q5, hf⟩ := hf
              refine w_callV [.int v6] [] (tX10_minutesOf v6 m r6 q5) (cvX10_59 rfl) dX10_dearest_74 rfl rfl (by decide) (by decide) rfl (Nat.le_of_ble_eq_true rfl) ?_
              show sm_W _ _ _ _ _ 77 [.ref 31, .ref 3, .int v2, .int v3, .int v4, .int v5, .int v6, .int r2, .int r4] [.int r6] (sm_hp m)
              refine w_blk bX10_dearest_77 [.ref 31, .ref 3, .int v2, .int v3, .int v4, .int v5, .int v6, .int r2, .int r4] [.int v4, .ref 31, .int r6] (sm_hp m) [] rfl (sm_on) ?_
              replace hf := sm_bd hf
              obtain ⟨r8, q7, hf⟩ := hf
              refine w_callV [.int v4] [.int r6] (tX10_minutesOf v4 m r8 q7) (cvX10_59 rfl) dX10_dearest_80 rfl rfl (by decide) (by decide) rfl (Nat.le_of_ble_eq_true rfl) ?_
              show sm_W _ _ _ _ _ 83 [.ref 31, .ref 3, .int v2, .int v3, .int v4, .int v5, .int v6, .int r2, .int r4] [.int r8, .int r6] (sm_hp m)
              refine w_icmp_ge (tgt := 94) dX10_dearest_83 rfl (fun hc => ?_) (fun hc => ?_)
              · replace hf := sm_ift hc hf
                refine w_blk bX10_dearest_94 [.ref 31, .ref 3, .int v2, .int v3, .int v4, .int v5, .int (v6 + (1 : Int32)), .int r2, .int r4] [] (sm_hp m) [] rfl (sm_on) ?_
                refine w_goto (tgt := 9) dX10_dearest_97 rfl ?_
                refine w_wk [true, true, true, true, true, true, true, false, false] ?_
                exact ih v2 v3 v4 v5 (v6 + (1 : Int32)) m r hf
              · replace hf := sm_iff hc hf
                refine w_blk bX10_dearest_86 [.ref 31, .ref 3, .int v2, .int v3, .int v6, .int r4, .int v6, .int r2, .int r4] [] (sm_hp m) [] rfl (sm_on) ?_
                refine w_blk bX10_dearest_94 [.ref 31, .ref 3, .int v2, .int v3, .int v6, .int r4, .int (v6 + (1 : Int32)), .int r2, .int r4] [] (sm_hp m) [] rfl (sm_on) ?_
                refine w_goto (tgt := 9) dX10_dearest_97 rfl ?_
                refine w_wk [true, true, true, true, true, true, true, false, false] ?_
                exact ih v2 v3 v6 r4 (v6 + (1 : Int32)) m r hf
        · replace hf := sm_iff hc hf
          refine w_blk bX10_dearest_40 [.ref 31, .ref 3, .int v2, .int v3, .int v4, .int v5, .int v6, .int r2, .retAddr 0] [.int v2, .int (r2 &&& (15 : Int32))] (sm_hp m) [] rfl (sm_on) ?_
          refine w_icmp_ne (tgt := 94) dX10_dearest_46 rfl (fun hc => ?_) (fun hc => ?_)
          · replace hf := sm_iff hc hf
            refine w_blk bX10_dearest_94 [.ref 31, .ref 3, .int v2, .int v3, .int v4, .int v5, .int (v6 + (1 : Int32)), .int r2, .retAddr 0] [] (sm_hp m) [] rfl (sm_on) ?_
            refine w_goto (tgt := 9) dX10_dearest_97 rfl ?_
            refine w_wk [true, true, true, true, true, true, true, false, false] ?_
            exact ih v2 v3 v4 v5 (v6 + (1 : Int32)) m r hf
          · replace hf := sm_ift hc hf
            refine w_blk bX10_dearest_49 [.ref 31, .ref 3, .int v2, .int v3, .int v4, .int v5, .int v6, .int r2, .retAddr 0] [.int v6, .ref 3] (sm_hp m) [] rfl (sm_on) ?_
            replace hf := sm_bd hf
            obtain ⟨r10, q9, hf⟩ := hf
            refine w_callV [.int v6] [] (tX2_worthOf v6 m r10 q9) (cvX10_56 rfl) dX10_dearest_52 rfl rfl (by decide) (by decide) rfl (Nat.le_of_ble_eq_true rfl) ?_
            show sm_W _ _ _ _ _ 55 [.ref 31, .ref 3, .int v2, .int v3, .int v4, .int v5, .int v6, .int r2, .retAddr 0] [.int r10] (sm_hp m)
            refine w_blk bX10_dearest_55 [.ref 31, .ref 3, .int v2, .int v3, .int v4, .int v5, .int v6, .int r2, .int r10] [.int v5, .int r10] (sm_hp m) [] rfl (sm_on) ?_
            refine w_icmp_gt (tgt := 86) dX10_dearest_61 rfl (fun hc => ?_) (fun hc => ?_)
            · replace hf := sm_ift hc hf
              refine w_blk bX10_dearest_86 [.ref 31, .ref 3, .int v2, .int v3, .int v6, .int r10, .int v6, .int r2, .int r10] [] (sm_hp m) [] rfl (sm_on) ?_
              refine w_blk bX10_dearest_94 [.ref 31, .ref 3, .int v2, .int v3, .int v6, .int r10, .int (v6 + (1 : Int32)), .int r2, .int r10] [] (sm_hp m) [] rfl (sm_on) ?_
              refine w_goto (tgt := 9) dX10_dearest_97 rfl ?_
              refine w_wk [true, true, true, true, true, true, true, false, false] ?_
              exact ih v2 v3 v6 r10 (v6 + (1 : Int32)) m r hf
            · replace hf := sm_iff hc hf
              refine w_blk bX10_dearest_64 [.ref 31, .ref 3, .int v2, .int v3, .int v4, .int v5, .int v6, .int r2, .int r10] [.int v5, .int r10] (sm_hp m) [] rfl (sm_on) ?_
              refine w_icmp_ne (tgt := 94) dX10_dearest_68 rfl (fun hc => ?_) (fun hc => ?_)
              · replace hf := sm_iff hc hf
                refine w_blk bX10_dearest_94 [.ref 31, .ref 3, .int v2, .int v3, .int v4, .int v5, .int (v6 + (1 : Int32)), .int r2, .int r10] [] (sm_hp m) [] rfl (sm_on) ?_
                refine w_goto (tgt := 9) dX10_dearest_97 rfl ?_
                refine w_wk [true, true, true, true, true, true, true, false, false] ?_
                exact ih v2 v3 v4 v5 (v6 + (1 : Int32)) m r hf
              · replace hf := sm_ift hc hf
                refine w_blk bX10_dearest_71 [.ref 31, .ref 3, .int v2, .int v3, .int v4, .int v5, .int v6, .int r2, .int r10] [.int v6, .ref 31] (sm_hp m) [] rfl (sm_on) ?_
                replace hf := sm_bd hf
                obtain ⟨r12, q11, hf⟩ := hf
                refine w_callV [.int v6] [] (tX10_minutesOf v6 m r12 q11) (cvX10_59 rfl) dX10_dearest_74 rfl rfl (by decide) (by decide) rfl (Nat.le_of_ble_eq_true rfl) ?_
                show sm_W _ _ _ _ _ 77 [.ref 31, .ref 3, .int v2, .int v3, .int v4, .int v5, .int v6, .int r2, .int r10] [.int r12] (sm_hp m)
                refine w_blk bX10_dearest_77 [.ref 31, .ref 3, .int v2, .int v3, .int v4, .int v5, .int v6, .int r2, .int r10] [.int v4, .ref 31, .int r12] (sm_hp m) [] rfl (sm_on) ?_
                replace hf := sm_bd hf
                obtain ⟨r14, q13, hf⟩ := hf
                refine w_callV [.int v4] [.int r12] (tX10_minutesOf v4 m r14 q13) (cvX10_59 rfl) dX10_dearest_80 rfl rfl (by decide) (by decide) rfl (Nat.le_of_ble_eq_true rfl) ?_
                show sm_W _ _ _ _ _ 83 [.ref 31, .ref 3, .int v2, .int v3, .int v4, .int v5, .int v6, .int r2, .int r10] [.int r14, .int r12] (sm_hp m)
                refine w_icmp_ge (tgt := 94) dX10_dearest_83 rfl (fun hc => ?_) (fun hc => ?_)
                · replace hf := sm_ift hc hf
                  refine w_blk bX10_dearest_94 [.ref 31, .ref 3, .int v2, .int v3, .int v4, .int v5, .int (v6 + (1 : Int32)), .int r2, .int r10] [] (sm_hp m) [] rfl (sm_on) ?_
                  refine w_goto (tgt := 9) dX10_dearest_97 rfl ?_
                  refine w_wk [true, true, true, true, true, true, true, false, false] ?_
                  exact ih v2 v3 v4 v5 (v6 + (1 : Int32)) m r hf
                · replace hf := sm_iff hc hf
                  refine w_blk bX10_dearest_86 [.ref 31, .ref 3, .int v2, .int v3, .int v6, .int r10, .int v6, .int r2, .int r10] [] (sm_hp m) [] rfl (sm_on) ?_
                  refine w_blk bX10_dearest_94 [.ref 31, .ref 3, .int v2, .int v3, .int v6, .int r10, .int (v6 + (1 : Int32)), .int r2, .int r10] [] (sm_hp m) [] rfl (sm_on) ?_
                  refine w_goto (tgt := 9) dX10_dearest_97 rfl ?_
                  refine w_wk [true, true, true, true, true, true, true, false, false] ?_
                  exact ih v2 v3 v6 r10 (v6 + (1 : Int32)) m r hf
set_option maxRecDepth 10000 in
theorem tX10_dearest {l : Launch} {al : Bool} (x1 : Int32) (x2 : Int32) (m : sm_S) (r : Int32) (hf : fX10_dearest x1 x2 m = some r) : sm_Rt l mX10_dearest 3 0 0 al al [.ref 31, .ref 3, .int x1, .int x2] (sm_hp m) (some (.int r), sm_hp m) := by
  refine sm_Rt.ofW (L := [.ref 31, .ref 3, .int x1, .int x2, .retAddr 0, .retAddr 0, .retAddr 0, .retAddr 0, .retAddr 0]) (by decide) (Nat.le_of_ble_eq_true rfl) rfl ?_
  unfold fX10_dearest at hf
  refine w_blk bX10_dearest_0 [.ref 31, .ref 3, .int x1, .int x2, .int (0 : Int32), .int (0 : Int32), .int (1 : Int32), .retAddr 0, .retAddr 0] [] (sm_hp m) [] rfl (sm_on) ?_
  exact tX10_dearest_9 sm_fu x1 x2 (0 : Int32) (0 : Int32) (1 : Int32) m r hf
set_option maxRecDepth 10000 in
theorem tX11_mostWorth {l : Launch} {al : Bool} (x1 : Int32) (x2 : Int32) (x3 : Int32) (m : sm_S) (r : Int32 × sm_S) (hf : fX11_mostWorth x1 x2 x3 m = some r) : sm_Rt l mX11_mostWorth 4 0 0 al al [.ref 0, .int x1, .int x2, .int x3] (sm_hp m) (some (.int r.1), sm_hp r.2) := by
  refine sm_Rt.ofW (L := [.ref 0, .int x1, .int x2, .int x3, .retAddr 0]) (by decide) (Nat.le_of_ble_eq_true rfl) rfl ?_
  unfold fX11_mostWorth at hf
  refine w_blk bX11_mostWorth_0 [.ref 0, .int x1, .int x2, .int x3, .retAddr 0] [.int x1, .ref 3] (sm_hp m) [] rfl (sm_on) ?_
  replace hf := sm_bd hf
  obtain ⟨r2, q1, hf⟩ := hf
  refine w_callV [.int x1] [] (tX2_hasCorner x1 m r2 q1) (cvX11_144 rfl) dX11_mostWorth_5 rfl rfl (by decide) (by decide) rfl (Nat.le_of_ble_eq_true rfl) ?_
  show sm_W _ _ _ _ _ 8 [.ref 0, .int x1, .int x2, .int x3, .retAddr 0] [.int r2] (sm_hp m)
  refine w_if_eq (tgt := 22) dX11_mostWorth_8 rfl (fun hc => ?_) (fun hc => ?_)
  · replace hf := sm_ift hc hf
    refine w_blk bX11_mostWorth_22 [.ref 0, .int x1, .int x2, .int x3, .retAddr 0] [.int (-1 : Int32)] (sm_hp m) [] rfl (sm_on) ?_
    obtain rfl := Option.some.inj hf
    exact w_reti dX11_mostWorth_23 rfl rfl
  · replace hf := sm_iff hc hf
    refine w_blk bX11_mostWorth_11 [.ref 0, .int x1, .int x2, .int x3, .retAddr 0] [.int x2] (sm_hp m) [] rfl (sm_on) ?_
    refine w_if_lt (tgt := 22) dX11_mostWorth_12 rfl (fun hc => ?_) (fun hc => ?_)
    · replace hf := sm_ift hc hf
      refine w_blk bX11_mostWorth_22 [.ref 0, .int x1, .int x2, .int x3, .retAddr 0] [.int (-1 : Int32)] (sm_hp m) [] rfl (sm_on) ?_
      obtain rfl := Option.some.inj hf
      exact w_reti dX11_mostWorth_23 rfl rfl
    · replace hf := sm_iff hc hf
      refine w_blk bX11_mostWorth_15 [.ref 0, .int x1, .int x2, .int x3, .retAddr 0] [.int (9999 : Int32), .int x2] (sm_hp m) [] rfl (sm_on) ?_
      refine w_icmp_le (tgt := 24) dX11_mostWorth_19 rfl (fun hc => ?_) (fun hc => ?_)
      · replace hf := sm_ift hc hf
        refine w_blk bX11_mostWorth_24 [.ref 0, .int x1, .int x2, .int x3, .retAddr 0] [.int x2, .int x1, .ref 3, .ref 31] (sm_hp m) [] rfl (sm_on) ?_
        replace hf := sm_bd hf
        obtain ⟨m4, q3, hf⟩ := hf
        refine w_callV [.ref 3, .int x1, .int x2] [] (tX10_explore x1 x2 m m4 q3) (cvX11_311 rfl) dX11_mostWorth_34 rfl rfl (by decide) (by decide) rfl (Nat.le_of_ble_eq_true rfl) ?_
        show sm_W _ _ _ _ _ 37 [.ref 0, .int x1, .int x2, .int x3, .retAddr 0] [] (sm_hp m4)
        refine w_blk bX11_mostWorth_37 [.ref 0, .int x1, .int x2, .int x3, .retAddr 0] [.int x3, .int x1, .ref 3, .ref 31] (sm_hp m4) [] rfl (sm_on) ?_
        replace hf := sm_bd hf
        obtain ⟨r6, q5, hf⟩ := hf
        refine w_callV [.ref 3, .int x1, .int x3] [] (tX10_dearest x1 x3 m4 r6 q5) (cvX11_315 rfl) dX11_mostWorth_47 rfl rfl (by decide) (by decide) rfl (Nat.le_of_ble_eq_true rfl) ?_
        show sm_W _ _ _ _ _ 50 [.ref 0, .int x1, .int x2, .int x3, .retAddr 0] [.int r6] (sm_hp m4)
        refine w_blk bX11_mostWorth_50 [.ref 0, .int x1, .int x2, .int x3, .int r6] [.int r6, .ref 14] (sm_hp m4) [] rfl (sm_on) ?_
        replace hf := sm_bd hf
        obtain ⟨m8, q7, hf⟩ := hf
        refine w_callV [.int r6] [] (tX5_tell r6 m4 m8 q7) (cvX11_224 rfl) dX11_mostWorth_58 rfl rfl (by decide) (by decide) rfl (Nat.le_of_ble_eq_true rfl) ?_
        show sm_W _ _ _ _ _ 61 [.ref 0, .int x1, .int x2, .int x3, .int r6] [] (sm_hp m8)
        refine w_blk bX11_mostWorth_61 [.ref 0, .int x1, .int x2, .int x3, .int r6] [.int r6, .ref 31, .ref 14] (sm_hp m8) [] rfl (sm_on) ?_
        replace hf := sm_bd hf
        obtain ⟨r10, q9, hf⟩ := hf
        refine w_callV [.int r6] [.ref 14] (tX10_minutesOf r6 m8 r10 q9) (cvX11_318 rfl) dX11_mostWorth_71 rfl rfl (by decide) (by decide) rfl (Nat.le_of_ble_eq_true rfl) ?_
        show sm_W _ _ _ _ _ 74 [.ref 0, .int x1, .int x2, .int x3, .int r6] [.int r10, .ref 14] (sm_hp m8)
        replace hf := sm_bd hf
        obtain ⟨m12, q11, hf⟩ := hf
        refine w_callV [.int r10] [] (tX5_add r10 m8 m12 q11) (cvX11_231 rfl) dX11_mostWorth_74 rfl rfl (by decide) (by decide) rfl (Nat.le_of_ble_eq_true rfl) ?_
        show sm_W _ _ _ _ _ 77 [.ref 0, .int x1, .int x2, .int x3, .int r6] [] (sm_hp m12)
        refine w_blk bX11_mostWorth_77 [.ref 0, .int x1, .int x2, .int x3, .int r6] [.int r6, .ref 3] (sm_hp m12) [] rfl (sm_on) ?_
        replace hf := sm_bd hf
        obtain ⟨r14, q13, hf⟩ := hf
        refine w_callV [.int r6] [] (tX2_worthOf r6 m12 r14 q13) (cvX11_321 rfl) dX11_mostWorth_83 rfl rfl (by decide) (by decide) rfl (Nat.le_of_ble_eq_true rfl) ?_
        show sm_W _ _ _ _ _ 86 [.ref 0, .int x1, .int x2, .int x3, .int r6] [.int r14] (sm_hp m12)
        obtain rfl := Option.some.inj hf
        exact w_reti dX11_mostWorth_86 rfl rfl
      · replace hf := sm_iff hc hf
        refine w_blk bX11_mostWorth_22 [.ref 0, .int x1, .int x2, .int x3, .retAddr 0] [.int (-1 : Int32)] (sm_hp m) [] rfl (sm_on) ?_
        obtain rfl := Option.some.inj hf
        exact w_reti dX11_mostWorth_23 rfl rfl
set_option maxRecDepth 10000 in
theorem tX11_most {l : Launch} {al : Bool} (x1 : Int32) (x2 : Int32) (m : sm_S) (r : Int32 × sm_S) (hf : fX11_most x1 x2 m = some r) : sm_Rt l mX11_most 5 0 0 al al [.ref 0, .int x1, .int x2] (sm_hp m) (some (.int r.1), sm_hp r.2) := by
  refine sm_Rt.ofW (L := [.ref 0, .int x1, .int x2]) (by decide) (Nat.le_of_ble_eq_true rfl) rfl ?_
  unfold fX11_most at hf
  refine w_blk bX11_most_0 [.ref 0, .int x1, .int x2] [.int (0 : Int32), .int x2, .int x1, .ref 0] (sm_hp m) [] rfl (sm_on) ?_
  replace hf := sm_bd hf
  obtain ⟨r2, q1, hf⟩ := hf
  refine w_callV [.int x1, .int x2, .int (0 : Int32)] [] (tX11_mostWorth x1 x2 (0 : Int32) m r2 q1) (cvX11_307 rfl) dX11_most_4 rfl rfl (by decide) (by decide) rfl (Nat.le_of_ble_eq_true rfl) ?_
  show sm_W _ _ _ _ _ 7 [.ref 0, .int x1, .int x2] [.int r2.1] (sm_hp r2.2)
  obtain rfl := Option.some.inj hf
  exact w_reti dX11_most_7 rfl rfl
set_option maxRecDepth 10000 in
theorem tX11_home {l : Launch} {al : Bool} (x1 : Int32) (x2 : Int32) (m : sm_S) (r : Int32 × sm_S) (hf : fX11_home x1 x2 m = some r) : sm_Rt l mX11_home 5 0 0 al al [.ref 0, .int x1, .int x2] (sm_hp m) (some (.int r.1), sm_hp r.2) := by
  refine sm_Rt.ofW (L := [.ref 0, .int x1, .int x2]) (by decide) (Nat.le_of_ble_eq_true rfl) rfl ?_
  unfold fX11_home at hf
  refine w_blk bX11_home_0 [.ref 0, .int x1, .int x2] [.int (1 : Int32), .int x2, .int x1, .ref 0] (sm_hp m) [] rfl (sm_on) ?_
  replace hf := sm_bd hf
  obtain ⟨r2, q1, hf⟩ := hf
  refine w_callV [.int x1, .int x2, .int (1 : Int32)] [] (tX11_mostWorth x1 x2 (1 : Int32) m r2 q1) (cvX11_307 rfl) dX11_home_4 rfl rfl (by decide) (by decide) rfl (Nat.le_of_ble_eq_true rfl) ?_
  show sm_W _ _ _ _ _ 7 [.ref 0, .int x1, .int x2] [.int r2.1] (sm_hp r2.2)
  obtain rfl := Option.some.inj hf
  exact w_reti dX11_home_7 rfl rfl
set_option maxRecDepth 10000 in
theorem tX10_quickest_9 {l : Launch} {al : Bool} : ∀ (n : Nat) (v2 : Int32) (v3 : Int32) (v4 : Int32) (v5 : Int32) (m : sm_S) (r : Int32), fX10_quickest_9 n v2 v3 v4 v5 m = some r → sm_W l mX10_quickest 2 al (some (.int r), sm_hp m) 9 [.ref 31, .ref 3, .int v2, .int v3, .int v4, .int v5, .retAddr 0] [] (sm_hp m) := by
  intro n
  induction n with
  | zero =>
    intro v2 v3 v4 v5 m r hf
    unfold fX10_quickest_9 at hf
    cases hf
  | succ n ih =>
    intro v2 v3 v4 v5 m r hf
    unfold fX10_quickest_9 at hf
    refine w_blk bX10_quickest_9 [.ref 31, .ref 3, .int v2, .int v3, .int v4, .int v5, .retAddr 0] [.int (m.1 31 1), .int v5] (sm_hp m) [] rfl (sm_on) ?_
    refine w_icmp_ge (tgt := 70) dX10_quickest_15 rfl (fun hc => ?_) (fun hc => ?_)
    · replace hf := sm_ift hc hf
      refine w_blk bX10_quickest_70 [.ref 31, .ref 3, .int v2, .int v3, .int v4, .int v5, .retAddr 0] [.int v3] (sm_hp m) [] rfl (sm_on) ?_
      obtain rfl := Option.some.inj hf
      exact w_reti dX10_quickest_71 rfl rfl
    · replace hf := sm_iff hc hf
      refine w_blk bX10_quickest_18 [.ref 31, .ref 3, .int v2, .int v3, .int v4, .int v5, .retAddr 0] [.int v5, .ref 32] (sm_hp m) [] rfl (sm_on) ?_
      replace hf := sm_bd hf
      obtain ⟨r2, q1, hf⟩ := hf
      refine w_callV [.int v5] [] (tX3_at_i1 v5 m r2 q1) (cvX10_36 rfl) dX10_quickest_24 rfl rfl (by decide) (by decide) rfl (Nat.le_of_ble_eq_true rfl) ?_
      show sm_W _ _ _ _ _ 27 [.ref 31, .ref 3, .int v2, .int v3, .int v4, .int v5, .retAddr 0] [.int r2] (sm_hp m)
      refine w_blk bX10_quickest_27 [.ref 31, .ref 3, .int v2, .int v3, .int v4, .int v5, .int r2] [.int (65535 : Int32), .int r2] (sm_hp m) [] rfl (sm_on) ?_
      refine w_icmp_ge (tgt := 64) dX10_quickest_33 rfl (fun hc => ?_) (fun hc => ?_)
      · replace hf := sm_ift hc hf
        refine w_blk bX10_quickest_64 [.ref 31, .ref 3, .int v2, .int v3, .int v4, .int (v5 + (1 : Int32)), .int r2] [] (sm_hp m) [] rfl (sm_on) ?_
        refine w_goto (tgt := 9) dX10_quickest_67 rfl ?_
        refine w_wk [true, true, true, true, true, true, false] ?_
        exact ih v2 v3 v4 (v5 + (1 : Int32)) m r hf
      · replace hf := sm_iff hc hf
        refine w_blk bX10_quickest_36 [.ref 31, .ref 3, .int v2, .int v3, .int v4, .int v5, .int r2] [.int v4, .int (r2 >>> ((4 : Int32) &&& 31))] (sm_hp m) [] rfl (sm_on) ?_
        refine w_icmp_ge (tgt := 64) dX10_quickest_42 rfl (fun hc => ?_) (fun hc => ?_)
        · replace hf := sm_ift hc hf
          refine w_blk bX10_quickest_64 [.ref 31, .ref 3, .int v2, .int v3, .int v4, .int (v5 + (1 : Int32)), .int r2] [] (sm_hp m) [] rfl (sm_on) ?_
          refine w_goto (tgt := 9) dX10_quickest_67 rfl ?_
          refine w_wk [true, true, true, true, true, true, false] ?_
          exact ih v2 v3 v4 (v5 + (1 : Int32)) m r hf
        · replace hf := sm_iff hc hf
          refine w_blk bX10_quickest_45 [.ref 31, .ref 3, .int v2, .int v3, .int v4, .int v5, .int r2] [.int v5, .ref 3] (sm_hp m) [] rfl (sm_on) ?_
          replace hf := sm_bd hf
          obtain ⟨r4, q3, hf⟩ := hf
          refine w_callV [.int v5] [] (tX2_worthOf v5 m r4 q3) (cvX10_56 rfl) dX10_quickest_48 rfl rfl (by decide) (by decide) rfl (Nat.le_of_ble_eq_true rfl) ?_
          show sm_W _ _ _ _ _ 51 [.ref 31, .ref 3, .int v2, .int v3, .int v4, .int v5, .int r2] [.int r4] (sm_hp m)
          refine w_blk bX10_quickest_51 [.ref 31, .ref 3, .int v2, .int v3, .int v4, .int v5, .int r2] [.int v2, .int r4] (sm_hp m) [] rfl (sm_on) ?_
          refine w_icmp_lt (tgt := 64) dX10_quickest_52 rfl (fun hc => ?_) (fun hc => ?_)
          · replace hf := sm_ift hc hf
            refine w_blk bX10_quickest_64 [.ref 31, .ref 3, .int v2, .int v3, .int v4, .int (v5 + (1 : Int32)), .int r2] [] (sm_hp m) [] rfl (sm_on) ?_
            refine w_goto (tgt := 9) dX10_quickest_67 rfl ?_
            refine w_wk [true, true, true, true, true, true, false] ?_
            exact ih v2 v3 v4 (v5 + (1 : Int32)) m r hf
          · replace hf := sm_iff hc hf
            refine w_blk bX10_quickest_55 [.ref 31, .ref 3, .int v2, .int v5, .int (r2 >>> ((4 : Int32) &&& 31)), .int v5, .int r2] [] (sm_hp m) [] rfl (sm_on) ?_
            refine w_blk bX10_quickest_64 [.ref 31, .ref 3, .int v2, .int v5, .int (r2 >>> ((4 : Int32) &&& 31)), .int (v5 + (1 : Int32)), .int r2] [] (sm_hp m) [] rfl (sm_on) ?_
            refine w_goto (tgt := 9) dX10_quickest_67 rfl ?_
            refine w_wk [true, true, true, true, true, true, false] ?_
            exact ih v2 v5 (r2 >>> ((4 : Int32) &&& 31)) (v5 + (1 : Int32)) m r hf
set_option maxRecDepth 10000 in
theorem tX10_quickest {l : Launch} {al : Bool} (x1 : Int32) (m : sm_S) (r : Int32) (hf : fX10_quickest x1 m = some r) : sm_Rt l mX10_quickest 2 0 0 al al [.ref 31, .ref 3, .int x1] (sm_hp m) (some (.int r), sm_hp m) := by
  refine sm_Rt.ofW (L := [.ref 31, .ref 3, .int x1, .retAddr 0, .retAddr 0, .retAddr 0, .retAddr 0]) (by decide) (Nat.le_of_ble_eq_true rfl) rfl ?_
  unfold fX10_quickest at hf
  refine w_blk bX10_quickest_0 [.ref 31, .ref 3, .int x1, .int (-1 : Int32), .int (65535 : Int32), .int (0 : Int32), .retAddr 0] [] (sm_hp m) [] rfl (sm_on) ?_
  exact tX10_quickest_9 sm_fu x1 (-1 : Int32) (65535 : Int32) (0 : Int32) m r hf
set_option maxRecDepth 10000 in
theorem tX11_soon {l : Launch} {al : Bool} (x1 : Int32) (x2 : Int32) (m : sm_S) (r : Int32 × sm_S) (hf : fX11_soon x1 x2 m = some r) : sm_Rt l mX11_soon 4 0 0 al al [.ref 0, .int x1, .int x2] (sm_hp m) (some (.int r.1), sm_hp r.2) := by
  refine sm_Rt.ofW (L := [.ref 0, .int x1, .int x2, .retAddr 0]) (by decide) (Nat.le_of_ble_eq_true rfl) rfl ?_
  unfold fX11_soon at hf
  refine w_blk bX11_soon_0 [.ref 0, .int x1, .int x2, .retAddr 0] [.int x1, .ref 3] (sm_hp m) [] rfl (sm_on) ?_
  replace hf := sm_bd hf
  obtain ⟨r2, q1, hf⟩ := hf
  refine w_callV [.int x1] [] (tX2_hasCorner x1 m r2 q1) (cvX11_144 rfl) dX11_soon_5 rfl rfl (by decide) (by decide) rfl (Nat.le_of_ble_eq_true rfl) ?_
  show sm_W _ _ _ _ _ 8 [.ref 0, .int x1, .int x2, .retAddr 0] [.int r2] (sm_hp m)
  refine w_if_eq (tgt := 22) dX11_soon_8 rfl (fun hc => ?_) (fun hc => ?_)
  · replace hf := sm_ift hc hf
    refine w_blk bX11_soon_22 [.ref 0, .int x1, .int x2, .retAddr 0] [.int (-1 : Int32)] (sm_hp m) [] rfl (sm_on) ?_
    obtain rfl := Option.some.inj hf
    exact w_reti dX11_soon_23 rfl rfl
  · replace hf := sm_iff hc hf
    refine w_blk bX11_soon_11 [.ref 0, .int x1, .int x2, .retAddr 0] [.int x2] (sm_hp m) [] rfl (sm_on) ?_
    refine w_if_lt (tgt := 22) dX11_soon_12 rfl (fun hc => ?_) (fun hc => ?_)
    · replace hf := sm_ift hc hf
      refine w_blk bX11_soon_22 [.ref 0, .int x1, .int x2, .retAddr 0] [.int (-1 : Int32)] (sm_hp m) [] rfl (sm_on) ?_
      obtain rfl := Option.some.inj hf
      exact w_reti dX11_soon_23 rfl rfl
    · replace hf := sm_iff hc hf
      refine w_blk bX11_soon_15 [.ref 0, .int x1, .int x2, .retAddr 0] [.int (200 : Int32), .int x2] (sm_hp m) [] rfl (sm_on) ?_
      refine w_icmp_le (tgt := 24) dX11_soon_19 rfl (fun hc => ?_) (fun hc => ?_)
      · replace hf := sm_ift hc hf
        refine w_blk bX11_soon_24 [.ref 0, .int x1, .int x2, .retAddr 0] [.int (9999 : Int32), .int x1, .ref 3, .ref 31] (sm_hp m) [] rfl (sm_on) ?_
        replace hf := sm_bd hf
        obtain ⟨m4, q3, hf⟩ := hf
        refine w_callV [.ref 3, .int x1, .int (9999 : Int32)] [] (tX10_explore x1 (9999 : Int32) m m4 q3) (cvX11_311 rfl) dX11_soon_36 rfl rfl (by decide) (by decide) rfl (Nat.le_of_ble_eq_true rfl) ?_
        show sm_W _ _ _ _ _ 39 [.ref 0, .int x1, .int x2, .retAddr 0] [] (sm_hp m4)
        refine w_blk bX11_soon_39 [.ref 0, .int x1, .int x2, .retAddr 0] [.int x2, .ref 3, .ref 31] (sm_hp m4) [] rfl (sm_on) ?_
        replace hf := sm_bd hf
        obtain ⟨r6, q5, hf⟩ := hf
        refine w_callV [.ref 3, .int x2] [] (tX10_quickest x2 m4 r6 q5) (cvX11_324 rfl) dX11_soon_48 rfl rfl (by decide) (by decide) rfl (Nat.le_of_ble_eq_true rfl) ?_
        show sm_W _ _ _ _ _ 51 [.ref 0, .int x1, .int x2, .retAddr 0] [.int r6] (sm_hp m4)
        refine w_blk bX11_soon_51 [.ref 0, .int x1, .int x2, .int r6] [.int r6] (sm_hp m4) [] rfl (sm_on) ?_
        refine w_if_ge (tgt := 59) dX11_soon_53 rfl (fun hc => ?_) (fun hc => ?_)
        · replace hf := sm_ift hc hf
          refine w_blk bX11_soon_59 [.ref 0, .int x1, .int x2, .int r6] [.int r6, .ref 14] (sm_hp m4) [] rfl (sm_on) ?_
          replace hf := sm_bd hf
          obtain ⟨m8, q7, hf⟩ := hf
          refine w_callV [.int r6] [] (tX5_tell r6 m4 m8 q7) (cvX11_224 rfl) dX11_soon_64 rfl rfl (by decide) (by decide) rfl (Nat.le_of_ble_eq_true rfl) ?_
          show sm_W _ _ _ _ _ 67 [.ref 0, .int x1, .int x2, .int r6] [] (sm_hp m8)
          refine w_blk bX11_soon_67 [.ref 0, .int x1, .int x2, .int r6] [.int r6, .ref 31] (sm_hp m8) [] rfl (sm_on) ?_
          replace hf := sm_bd hf
          obtain ⟨r10, q9, hf⟩ := hf
          refine w_callV [.int r6] [] (tX10_minutesOf r6 m8 r10 q9) (cvX11_318 rfl) dX11_soon_72 rfl rfl (by decide) (by decide) rfl (Nat.le_of_ble_eq_true rfl) ?_
          show sm_W _ _ _ _ _ 75 [.ref 0, .int x1, .int x2, .int r6] [.int r10] (sm_hp m8)
          obtain rfl := Option.some.inj hf
          exact w_reti dX11_soon_75 rfl rfl
        · replace hf := sm_iff hc hf
          refine w_blk bX11_soon_56 [.ref 0, .int x1, .int x2, .int r6] [.int (-2 : Int32)] (sm_hp m4) [] rfl (sm_on) ?_
          obtain rfl := Option.some.inj hf
          exact w_reti dX11_soon_58 rfl rfl
      · replace hf := sm_iff hc hf
        refine w_blk bX11_soon_22 [.ref 0, .int x1, .int x2, .retAddr 0] [.int (-1 : Int32)] (sm_hp m) [] rfl (sm_on) ?_
        obtain rfl := Option.some.inj hf
        exact w_reti dX11_soon_23 rfl rfl
set_option maxRecDepth 10000 in
theorem tX11_bridges_4 {l : Launch} {al : Bool} : ∀ (n : Nat) (v1 : Int32) (v2 : Int32) (m : sm_S) (r : Int32), fX11_bridges_4 n v1 v2 m = some r → sm_W l mX11_bridges 3 al (some (.int r), sm_hp m) 4 [.ref 0, .int v1, .int v2, .retAddr 0] [] (sm_hp m) := by
  intro n
  induction n with
  | zero =>
    intro v1 v2 m r hf
    unfold fX11_bridges_4 at hf
    cases hf
  | succ n ih =>
    intro v1 v2 m r hf
    unfold fX11_bridges_4 at hf
    refine w_blk bX11_bridges_4 [.ref 0, .int v1, .int v2, .retAddr 0] [.int (m.1 3 1), .int v2] (sm_hp m) [] rfl (sm_on) ?_
    refine w_icmp_ge (tgt := 73) dX11_bridges_12 rfl (fun hc => ?_) (fun hc => ?_)
    · replace hf := sm_ift hc hf
      refine w_blk bX11_bridges_73 [.ref 0, .int v1, .int v2, .retAddr 0] [.int v1] (sm_hp m) [] rfl (sm_on) ?_
      obtain rfl := Option.some.inj hf
      exact w_reti dX11_bridges_74 rfl rfl
    · replace hf := sm_iff hc hf
      refine w_blk bX11_bridges_15 [.ref 0, .int v1, .int v2, .retAddr 0] [.ref 3] (sm_hp m) [] rfl (sm_on) ?_
      replace hf := sm_bd hf
      obtain ⟨r2, q1, hf⟩ := hf
      refine w_callV [] [] (tX2_everyHedge m r2 q1) (cvX11_273 rfl) dX11_bridges_19 rfl rfl (by decide) (by decide) rfl (Nat.le_of_ble_eq_true rfl) ?_
      show sm_W _ _ _ _ _ 22 [.ref 0, .int v1, .int v2, .retAddr 0] [.int r2] (sm_hp m)
      replace hf := sm_ck hf
      obtain ⟨q3, hf⟩ := hf
      refine w_blk bX11_bridges_22 [.ref 0, .int v1, .int v2, .int (r2 &&& (((1 : Int32) <<< (v2 &&& 31)) ^^^ (-1 : Int32)))] [.int (r2 &&& (((1 : Int32) <<< (v2 &&& 31)) ^^^ (-1 : Int32))), .int (m.1 6 (v2).toNatClampNeg), .ref 3] (sm_hp m) [(v2, 14)] rfl (sm_oc q3 (sm_on)) ?_
      replace hf := sm_bd hf
      obtain ⟨r5, q4, hf⟩ := hf
      refine w_callV [.int (m.1 6 (v2).toNatClampNeg), .int (r2 &&& (((1 : Int32) <<< (v2 &&& 31)) ^^^ (-1 : Int32)))] [] (tX2_hanging (m.1 6 (v2).toNatClampNeg) (r2 &&& (((1 : Int32) <<< (v2 &&& 31)) ^^^ (-1 : Int32))) m r5 q4) (cvX11_284 rfl) dX11_bridges_43 rfl rfl (by decide) (by decide) rfl (Nat.le_of_ble_eq_true rfl) ?_
      show sm_W _ _ _ _ _ 46 [.ref 0, .int v1, .int v2, .int (r2 &&& (((1 : Int32) <<< (v2 &&& 31)) ^^^ (-1 : Int32)))] [.int r5] (sm_hp m)
      replace hf := sm_ck hf
      obtain ⟨q6, hf⟩ := hf
      refine w_blk bX11_bridges_46 [.ref 0, .int v1, .int v2, .int (r2 &&& (((1 : Int32) <<< (v2 &&& 31)) ^^^ (-1 : Int32)))] [.int ((r5 >>> ((m.1 7 (v2).toNatClampNeg) &&& 31)) &&& (1 : Int32))] (sm_hp m) [(v2, 14)] rfl (sm_oc q6 (sm_on)) ?_
      refine w_if_ne (tgt := 67) dX11_bridges_58 rfl (fun hc => ?_) (fun hc => ?_)
      · replace hf := sm_iff hc hf
        refine w_blk bX11_bridges_67 [.ref 0, .int v1, .int (v2 + (1 : Int32)), .int (r2 &&& (((1 : Int32) <<< (v2 &&& 31)) ^^^ (-1 : Int32)))] [] (sm_hp m) [] rfl (sm_on) ?_
        refine w_goto (tgt := 4) dX11_bridges_70 rfl ?_
        refine w_wk [true, true, true, false] ?_
        exact ih v1 (v2 + (1 : Int32)) m r hf
      · replace hf := sm_ift hc hf
        refine w_blk bX11_bridges_61 [.ref 0, .int (v1 ||| ((1 : Int32) <<< (v2 &&& 31))), .int v2, .int (r2 &&& (((1 : Int32) <<< (v2 &&& 31)) ^^^ (-1 : Int32)))] [] (sm_hp m) [] rfl (sm_on) ?_
        refine w_blk bX11_bridges_67 [.ref 0, .int (v1 ||| ((1 : Int32) <<< (v2 &&& 31))), .int (v2 + (1 : Int32)), .int (r2 &&& (((1 : Int32) <<< (v2 &&& 31)) ^^^ (-1 : Int32)))] [] (sm_hp m) [] rfl (sm_on) ?_
        refine w_goto (tgt := 4) dX11_bridges_70 rfl ?_
        refine w_wk [true, true, true, false] ?_
        exact ih (v1 ||| ((1 : Int32) <<< (v2 &&& 31))) (v2 + (1 : Int32)) m r hf
set_option maxRecDepth 10000 in
theorem tX11_bridges {l : Launch} {al : Bool} (m : sm_S) (r : Int32) (hf : fX11_bridges m = some r) : sm_Rt l mX11_bridges 3 0 0 al al [.ref 0] (sm_hp m) (some (.int r), sm_hp m) := by
  refine sm_Rt.ofW (L := [.ref 0, .retAddr 0, .retAddr 0, .retAddr 0]) (by decide) (Nat.le_of_ble_eq_true rfl) rfl ?_
  unfold fX11_bridges at hf
  refine w_blk bX11_bridges_0 [.ref 0, .int (0 : Int32), .int (0 : Int32), .retAddr 0] [] (sm_hp m) [] rfl (sm_on) ?_
  exact tX11_bridges_4 sm_fu (0 : Int32) (0 : Int32) m r hf
set_option maxRecDepth 10000 in
theorem tX11_reach_41 {l : Launch} {al : Bool} : ∀ (n : Nat) (v1 : Int32) (v2 : Int32) (v3 : Int32) (m : sm_S) (r : Int32), fX11_reach_41 n v1 v2 v3 m = some r → sm_W l mX11_reach 3 al (some (.int r), sm_hp m) 41 [.ref 0, .int v1, .int v2, .int v3] [] (sm_hp m) := by
  intro n
  induction n with
  | zero =>
    intro v1 v2 v3 m r hf
    unfold fX11_reach_41 at hf
    cases hf
  | succ n ih =>
    intro v1 v2 v3 m r hf
    unfold fX11_reach_41 at hf
    refine w_blk bX11_reach_41 [.ref 0, .int v1, .int v2, .int v3] [.int (m.1 3 1), .int v3] (sm_hp m) [] rfl (sm_on) ?_
    refine w_icmp_ge (tgt := 84) dX11_reach_49 rfl (fun hc => ?_) (fun hc => ?_)
    · replace hf := sm_ift hc hf
      refine w_blk bX11_reach_84 [.ref 0, .int v1, .int v2, .int v3] [.int v2, .int (m.1 16 0), .ref 3] (sm_hp m) [] rfl (sm_on) ?_
      replace hf := sm_bd hf
      obtain ⟨r2, q1, hf⟩ := hf
      refine w_callV [.int (m.1 16 0), .int v2] [] (tX2_hanging (m.1 16 0) v2 m r2 q1) (cvX11_284 rfl) dX11_reach_96 rfl rfl (by decide) (by decide) rfl (Nat.le_of_ble_eq_true rfl) ?_
      show sm_W _ _ _ _ _ 99 [.ref 0, .int v1, .int v2, .int v3] [.int r2] (sm_hp m)
      obtain rfl := Option.some.inj hf
      exact w_reti dX11_reach_99 rfl rfl
    · replace hf := sm_iff hc hf
      refine w_blk bX11_reach_52 [.ref 0, .int v1, .int v2, .int v3] [.int v1, .int v3] (sm_hp m) [] rfl (sm_on) ?_
      refine w_icmp_eq (tgt := 78) dX11_reach_54 rfl (fun hc => ?_) (fun hc => ?_)
      · replace hf := sm_ift hc hf
        refine w_blk bX11_reach_78 [.ref 0, .int v1, .int v2, .int (v3 + (1 : Int32))] [] (sm_hp m) [] rfl (sm_on) ?_
        refine w_goto (tgt := 41) dX11_reach_81 rfl ?_
        exact ih v1 v2 (v3 + (1 : Int32)) m r hf
      · replace hf := sm_iff hc hf
        refine w_blk bX11_reach_57 [.ref 0, .int v1, .int v2, .int v3] [.int v3, .ref 3, .ref 16] (sm_hp m) [] rfl (sm_on) ?_
        replace hf := sm_bd hf
        obtain ⟨r4, q3, hf⟩ := hf
        refine w_callV [.ref 3, .int v3] [] (tX6_isFresh v3 m r4 q3) (cvX11_140 rfl) dX11_reach_66 rfl rfl (by decide) (by decide) rfl (Nat.le_of_ble_eq_true rfl) ?_
        show sm_W _ _ _ _ _ 69 [.ref 0, .int v1, .int v2, .int v3] [.int r4] (sm_hp m)
        refine w_if_eq (tgt := 78) dX11_reach_69 rfl (fun hc => ?_) (fun hc => ?_)
        · replace hf := sm_ift hc hf
          refine w_blk bX11_reach_78 [.ref 0, .int v1, .int v2, .int (v3 + (1 : Int32))] [] (sm_hp m) [] rfl (sm_on) ?_
          refine w_goto (tgt := 41) dX11_reach_81 rfl ?_
          exact ih v1 v2 (v3 + (1 : Int32)) m r hf
        · replace hf := sm_iff hc hf
          refine w_blk bX11_reach_72 [.ref 0, .int v1, .int (v2 ||| ((1 : Int32) <<< (v3 &&& 31))), .int v3] [] (sm_hp m) [] rfl (sm_on) ?_
          refine w_blk bX11_reach_78 [.ref 0, .int v1, .int (v2 ||| ((1 : Int32) <<< (v3 &&& 31))), .int (v3 + (1 : Int32))] [] (sm_hp m) [] rfl (sm_on) ?_
          refine w_goto (tgt := 41) dX11_reach_81 rfl ?_
          exact ih v1 (v2 ||| ((1 : Int32) <<< (v3 &&& 31))) (v3 + (1 : Int32)) m r hf
set_option maxRecDepth 10000 in
theorem tX11_reach {l : Launch} {al : Bool} (x1 : Int32) (m : sm_S) (r : Int32) (hf : fX11_reach x1 m = some r) : sm_Rt l mX11_reach 3 0 0 al al [.ref 0, .int x1] (sm_hp m) (some (.int r), sm_hp m) := by
  refine sm_Rt.ofW (L := [.ref 0, .int x1, .retAddr 0, .retAddr 0]) (by decide) (Nat.le_of_ble_eq_true rfl) rfl ?_
  unfold fX11_reach at hf
  refine w_blk bX11_reach_0 [.ref 0, .int x1, .retAddr 0, .retAddr 0] [.int (m.1 3 0)] (sm_hp m) [] rfl (sm_on) ?_
  refine w_if_eq (tgt := 26) dX11_reach_7 rfl (fun hc => ?_) (fun hc => ?_)
  · replace hf := sm_ift hc hf
    cases hf
  · replace hf := sm_iff hc hf
    refine w_blk bX11_reach_10 [.ref 0, .int x1, .retAddr 0, .retAddr 0] [.int (-1 : Int32), .int x1] (sm_hp m) [] rfl (sm_on) ?_
    refine w_icmp_eq (tgt := 37) dX11_reach_12 rfl (fun hc => ?_) (fun hc => ?_)
    · replace hf := sm_ift hc hf
      refine w_blk bX11_reach_37 [.ref 0, .int x1, .int (0 : Int32), .int (0 : Int32)] [] (sm_hp m) [] rfl (sm_on) ?_
      exact tX11_reach_41 sm_fu x1 (0 : Int32) (0 : Int32) m r hf
    · replace hf := sm_iff hc hf
      refine w_blk bX11_reach_15 [.ref 0, .int x1, .retAddr 0, .retAddr 0] [.int x1, .ref 3] (sm_hp m) [] rfl (sm_on) ?_
      replace hf := sm_bd hf
      obtain ⟨r6, q5, hf⟩ := hf
      refine w_callV [.int x1] [] (tX2_hasHedge x1 m r6 q5) (cvX11_105 rfl) dX11_reach_20 rfl rfl (by decide) (by decide) rfl (Nat.le_of_ble_eq_true rfl) ?_
      show sm_W _ _ _ _ _ 23 [.ref 0, .int x1, .retAddr 0, .retAddr 0] [.int r6] (sm_hp m)
      refine w_if_ne (tgt := 37) dX11_reach_23 rfl (fun hc => ?_) (fun hc => ?_)
      · replace hf := sm_iff hc hf
        refine w_blk bX11_reach_37 [.ref 0, .int x1, .int (0 : Int32), .int (0 : Int32)] [] (sm_hp m) [] rfl (sm_on) ?_
        exact tX11_reach_41 sm_fu x1 (0 : Int32) (0 : Int32) m r hf
      · replace hf := sm_ift hc hf
        cases hf
set_option maxRecDepth 10000 in
theorem tX1_layPaths_53 {l : Launch} {al : Bool} : ∀ (n : Nat) (v2 : Int32) (m : sm_S) (r : sm_S), fX1_layPaths_53 n v2 m = some r → sm_W l mX1_layPaths 2 al (none, sm_hp r) 53 [.ref 34, .ref 3, .int v2, .retAddr 0, .retAddr 0] [] (sm_hp m) := by
  intro n
  induction n with
  | zero =>
    intro v2 m r hf
    unfold fX1_layPaths_53 at hf
    cases hf
  | succ n ih =>
    intro v2 m r hf
    unfold fX1_layPaths_53 at hf
    refine w_blk bX1_layPaths_53 [.ref 34, .ref 3, .int v2, .retAddr 0, .retAddr 0] [.int (m.1 3 1), .int v2] (sm_hp m) [] rfl (sm_on) ?_
    refine w_icmp_ge (tgt := 146) dX1_layPaths_58 rfl (fun hc => ?_) (fun hc => ?_)
    · replace hf := sm_ift hc hf
      obtain rfl := Option.some.inj hf
      exact w_retv dX1_layPaths_146 rfl
    · replace hf := sm_iff hc hf
      replace hf := sm_ck hf
      obtain ⟨q1, hf⟩ := hf
      refine w_blk bX1_layPaths_61 [.ref 34, .ref 3, .int v2, .retAddr 0, .retAddr 0] [.int (m.1 13 (v2).toNatClampNeg)] (sm_hp m) [(v2, 14)] rfl (sm_oc q1 (sm_on)) ?_
      refine w_if_ne (tgt := 140) dX1_layPaths_67 rfl (fun hc => ?_) (fun hc => ?_)
      · replace hf := sm_iff hc hf
        refine w_blk bX1_layPaths_140 [.ref 34, .ref 3, .int (v2 + (1 : Int32)), .retAddr 0, .retAddr 0] [] (sm_hp m) [] rfl (sm_on) ?_
        refine w_goto (tgt := 53) dX1_layPaths_143 rfl ?_
        exact ih (v2 + (1 : Int32)) m r hf
      · replace hf := sm_ift hc hf
        refine w_blk bX1_layPaths_70 [.ref 34, .ref 3, .int v2, .retAddr 0, .retAddr 0] [.int v2, .ref 6] (sm_hp m) [] rfl (sm_on) ?_
        replace hf := sm_ck hf
        obtain ⟨q2, hf⟩ := hf
        refine w_blk bX1_layPaths_75 [.ref 34, .ref 3, .int v2, .retAddr 0, .retAddr 0] [.int (m.1 6 (v2).toNatClampNeg)] (sm_hp m) [(v2, 14)] rfl (sm_oc q2 (sm_on)) ?_
        refine w_blk bX1_layPaths_76 [.ref 34, .ref 3, .int v2, .int (m.1 6 (v2).toNatClampNeg), .retAddr 0] [.int v2, .ref 7] (sm_hp m) [] rfl (sm_on) ?_
        replace hf := sm_ck hf
        obtain ⟨q3, hf⟩ := hf
        refine w_blk bX1_layPaths_82 [.ref 34, .ref 3, .int v2, .int (m.1 6 (v2).toNatClampNeg), .retAddr 0] [.int (m.1 7 (v2).toNatClampNeg)] (sm_hp m) [(v2, 14)] rfl (sm_oc q3 (sm_on)) ?_
        refine w_blk bX1_layPaths_83 [.ref 34, .ref 3, .int v2, .int (m.1 6 (v2).toNatClampNeg), .int (m.1 7 (v2).toNatClampNeg)] [.int (m.1 6 (v2).toNatClampNeg), .ref 38] (sm_hp m) [] rfl (sm_on) ?_
        replace hf := sm_ck hf
        obtain ⟨q4, hf⟩ := hf
        refine w_blk bX1_layPaths_90 [.ref 34, .ref 3, .int v2, .int (m.1 6 (v2).toNatClampNeg), .int (m.1 7 (v2).toNatClampNeg)] [.ref (39 + (m.1 6 (v2).toNatClampNeg).toNatClampNeg)] (sm_hp m) [((m.1 6 (v2).toNatClampNeg), 10)] (sm_run1 (i_aa_row q4)) (sm_oc q4 (sm_on)) ?_
        refine w_blk bX1_layPaths_91 [.ref 34, .ref 3, .int v2, .int (m.1 6 (v2).toNatClampNeg), .int (m.1 7 (v2).toNatClampNeg)] [.int (m.1 6 (v2).toNatClampNeg), .ref 38, .int (m.1 7 (v2).toNatClampNeg), .ref (39 + (m.1 6 (v2).toNatClampNeg).toNatClampNeg)] (sm_hp m) [] rfl (sm_on) ?_
        replace hf := sm_ck hf
        obtain ⟨q5, hf⟩ := hf
        refine w_blk bX1_layPaths_98 [.ref 34, .ref 3, .int v2, .int (m.1 6 (v2).toNatClampNeg), .int (m.1 7 (v2).toNatClampNeg)] [.ref (39 + (m.1 6 (v2).toNatClampNeg).toNatClampNeg), .int (m.1 7 (v2).toNatClampNeg), .ref (39 + (m.1 6 (v2).toNatClampNeg).toNatClampNeg)] (sm_hp m) [((m.1 6 (v2).toNatClampNeg), 10)] (sm_run1 (i_aa_row q5)) (sm_oc q5 (sm_on)) ?_
        refine w_blk bX1_layPaths_99 [.ref 34, .ref 3, .int v2, .int (m.1 6 (v2).toNatClampNeg), .int (m.1 7 (v2).toNatClampNeg)] [.int (m.1 7 (v2).toNatClampNeg), .ref (39 + (m.1 6 (v2).toNatClampNeg).toNatClampNeg), .int (m.1 7 (v2).toNatClampNeg), .ref (39 + (m.1 6 (v2).toNatClampNeg).toNatClampNeg)] (sm_hp m) [] rfl (sm_on) ?_
        replace hf := sm_ck hf
        obtain ⟨q6, hf⟩ := hf
        refine w_blk bX1_layPaths_101 [.ref 34, .ref 3, .int v2, .int (m.1 6 (v2).toNatClampNeg), .int (m.1 7 (v2).toNatClampNeg)] [.int (m.1 (39 + (m.1 6 (v2).toNatClampNeg).toNatClampNeg) (m.1 7 (v2).toNatClampNeg).toNatClampNeg), .int (m.1 7 (v2).toNatClampNeg), .ref (39 + (m.1 6 (v2).toNatClampNeg).toNatClampNeg)] (sm_hp m) [((m.1 7 (v2).toNatClampNeg), 10)] (sm_run1 (i_ia_row q5)) (sm_oc q6 (sm_on)) ?_
        refine w_blk bX1_layPaths_102 [.ref 34, .ref 3, .int v2, .int (m.1 6 (v2).toNatClampNeg), .int (m.1 7 (v2).toNatClampNeg)] [.int (m.1 6 (v2).toNatClampNeg), .int v2, .ref 3, .int (m.1 (39 + (m.1 6 (v2).toNatClampNeg).toNatClampNeg) (m.1 7 (v2).toNatClampNeg).toNatClampNeg), .int (m.1 7 (v2).toNatClampNeg), .ref (39 + (m.1 6 (v2).toNatClampNeg).toNatClampNeg)] (sm_hp m) [] rfl (sm_on) ?_
        replace hf := sm_bd hf
        obtain ⟨r8, q7, hf⟩ := hf
        refine w_callV [.int v2, .int (m.1 6 (v2).toNatClampNeg)] [.int (m.1 (39 + (m.1 6 (v2).toNatClampNeg).toNatClampNeg) (m.1 7 (v2).toNatClampNeg).toNatClampNeg), .int (m.1 7 (v2).toNatClampNeg), .ref (39 + (m.1 6 (v2).toNatClampNeg).toNatClampNeg)] (tX2_minutesFrom v2 (m.1 6 (v2).toNatClampNeg) m r8 q7) (cvX1_71 rfl) dX1_layPaths_105 rfl rfl (by decide) (by decide) rfl (Nat.le_of_ble_eq_true rfl) ?_
        show sm_W _ _ _ _ _ 108 [.ref 34, .ref 3, .int v2, .int (m.1 6 (v2).toNatClampNeg), .int (m.1 7 (v2).toNatClampNeg)] [.int r8, .int (m.1 (39 + (m.1 6 (v2).toNatClampNeg).toNatClampNeg) (m.1 7 (v2).toNatClampNeg).toNatClampNeg), .int (m.1 7 (v2).toNatClampNeg), .ref (39 + (m.1 6 (v2).toNatClampNeg).toNatClampNeg)] (sm_hp m)
        refine w_blk bX1_layPaths_108 [.ref 34, .ref 3, .int v2, .int (m.1 6 (v2).toNatClampNeg), .int (m.1 7 (v2).toNatClampNeg)] [.int (if r8 < (m.1 (39 + (m.1 6 (v2).toNatClampNeg).toNatClampNeg) (m.1 7 (v2).toNatClampNeg).toNatClampNeg) then r8 else (m.1 (39 + (m.1 6 (v2).toNatClampNeg).toNatClampNeg) (m.1 7 (v2).toNatClampNeg).toNatClampNeg)), .int (m.1 7 (v2).toNatClampNeg), .ref (39 + (m.1 6 (v2).toNatClampNeg).toNatClampNeg)] (sm_hp m) [] rfl (sm_on) ?_
        replace hf := sm_ck hf
        obtain ⟨q9, hf⟩ := hf
        refine w_blk bX1_layPaths_111 [.ref 34, .ref 3, .int v2, .int (m.1 6 (v2).toNatClampNeg), .int (m.1 7 (v2).toNatClampNeg)] [] (sm_hp (sm_w1 m (39 + (m.1 6 (v2).toNatClampNeg).toNatClampNeg) (m.1 7 (v2).toNatClampNeg).toNatClampNeg (if r8 < (m.1 (39 + (m.1 6 (v2).toNatClampNeg).toNatClampNeg) (m.1 7 (v2).toNatClampNeg).toNatClampNeg) then r8 else (m.1 (39 + (m.1 6 (v2).toNatClampNeg).toNatClampNeg) (m.1 7 (v2).toNatClampNeg).toNatClampNeg)))) [((m.1 7 (v2).toNatClampNeg), 10)] (sm_run1 (i_is_row q5)) (sm_oc q9 (sm_on)) ?_
        refine w_blk bX1_layPaths_112 [.ref 34, .ref 3, .int v2, .int (m.1 6 (v2).toNatClampNeg), .int (m.1 7 (v2).toNatClampNeg)] [.int (m.1 7 (v2).toNatClampNeg), .ref 38] (sm_hp (sm_w1 m (39 + (m.1 6 (v2).toNatClampNeg).toNatClampNeg) (m.1 7 (v2).toNatClampNeg).toNatClampNeg (if r8 < (m.1 (39 + (m.1 6 (v2).toNatClampNeg).toNatClampNeg) (m.1 7 (v2).toNatClampNeg).toNatClampNeg) then r8 else (m.1 (39 + (m.1 6 (v2).toNatClampNeg).toNatClampNeg) (m.1 7 (v2).toNatClampNeg).toNatClampNeg)))) [] rfl (sm_on) ?_
        replace hf := sm_ck hf
        obtain ⟨q10, hf⟩ := hf
        refine w_blk bX1_layPaths_118 [.ref 34, .ref 3, .int v2, .int (m.1 6 (v2).toNatClampNeg), .int (m.1 7 (v2).toNatClampNeg)] [.ref (39 + (m.1 7 (v2).toNatClampNeg).toNatClampNeg)] (sm_hp (sm_w1 m (39 + (m.1 6 (v2).toNatClampNeg).toNatClampNeg) (m.1 7 (v2).toNatClampNeg).toNatClampNeg (if r8 < (m.1 (39 + (m.1 6 (v2).toNatClampNeg).toNatClampNeg) (m.1 7 (v2).toNatClampNeg).toNatClampNeg) then r8 else (m.1 (39 + (m.1 6 (v2).toNatClampNeg).toNatClampNeg) (m.1 7 (v2).toNatClampNeg).toNatClampNeg)))) [((m.1 7 (v2).toNatClampNeg), 10)] (sm_run1 (i_aa_row q10)) (sm_oc q10 (sm_on)) ?_
        refine w_blk bX1_layPaths_119 [.ref 34, .ref 3, .int v2, .int (m.1 6 (v2).toNatClampNeg), .int (m.1 7 (v2).toNatClampNeg)] [.int (m.1 7 (v2).toNatClampNeg), .ref 38, .int (m.1 6 (v2).toNatClampNeg), .ref (39 + (m.1 7 (v2).toNatClampNeg).toNatClampNeg)] (sm_hp (sm_w1 m (39 + (m.1 6 (v2).toNatClampNeg).toNatClampNeg) (m.1 7 (v2).toNatClampNeg).toNatClampNeg (if r8 < (m.1 (39 + (m.1 6 (v2).toNatClampNeg).toNatClampNeg) (m.1 7 (v2).toNatClampNeg).toNatClampNeg) then r8 else (m.1 (39 + (m.1 6 (v2).toNatClampNeg).toNatClampNeg) (m.1 7 (v2).toNatClampNeg).toNatClampNeg)))) [] rfl (sm_on) ?_
        replace hf := sm_ck hf
        obtain ⟨q11, hf⟩ := hf
        refine w_blk bX1_layPaths_126 [.ref 34, .ref 3, .int v2, .int (m.1 6 (v2).toNatClampNeg), .int (m.1 7 (v2).toNatClampNeg)] [.ref (39 + (m.1 7 (v2).toNatClampNeg).toNatClampNeg), .int (m.1 6 (v2).toNatClampNeg), .ref (39 + (m.1 7 (v2).toNatClampNeg).toNatClampNeg)] (sm_hp (sm_w1 m (39 + (m.1 6 (v2).toNatClampNeg).toNatClampNeg) (m.1 7 (v2).toNatClampNeg).toNatClampNeg (if r8 < (m.1 (39 + (m.1 6 (v2).toNatClampNeg).toNatClampNeg) (m.1 7 (v2).toNatClampNeg).toNatClampNeg) then r8 else (m.1 (39 + (m.1 6 (v2).toNatClampNeg).toNatClampNeg) (m.1 7 (v2).toNatClampNeg).toNatClampNeg)))) [((m.1 7 (v2).toNatClampNeg), 10)] (sm_run1 (i_aa_row q11)) (sm_oc q11 (sm_on)) ?_
        refine w_blk bX1_layPaths_127 [.ref 34, .ref 3, .int v2, .int (m.1 6 (v2).toNatClampNeg), .int (m.1 7 (v2).toNatClampNeg)] [.int (m.1 6 (v2).toNatClampNeg), .ref (39 + (m.1 7 (v2).toNatClampNeg).toNatClampNeg), .int (m.1 6 (v2).toNatClampNeg), .ref (39 + (m.1 7 (v2).toNatClampNeg).toNatClampNeg)] (sm_hp (sm_w1 m (39 + (m.1 6 (v2).toNatClampNeg).toNatClampNeg) (m.1 7 (v2).toNatClampNeg).toNatClampNeg (if r8 < (m.1 (39 + (m.1 6 (v2).toNatClampNeg).toNatClampNeg) (m.1 7 (v2).toNatClampNeg).toNatClampNeg) then r8 else (m.1 (39 + (m.1 6 (v2).toNatClampNeg).toNatClampNeg) (m.1 7 (v2).toNatClampNeg).toNatClampNeg)))) [] rfl (sm_on) ?_
        replace hf := sm_ck hf
        obtain ⟨q12, hf⟩ := hf
        refine w_blk bX1_layPaths_128 [.ref 34, .ref 3, .int v2, .int (m.1 6 (v2).toNatClampNeg), .int (m.1 7 (v2).toNatClampNeg)] [.int ((sm_w1 m (39 + (m.1 6 (v2).toNatClampNeg).toNatClampNeg) (m.1 7 (v2).toNatClampNeg).toNatClampNeg (if r8 < (m.1 (39 + (m.1 6 (v2).toNatClampNeg).toNatClampNeg) (m.1 7 (v2).toNatClampNeg).toNatClampNeg) then r8 else (m.1 (39 + (m.1 6 (v2).toNatClampNeg).toNatClampNeg) (m.1 7 (v2).toNatClampNeg).toNatClampNeg))).1 (39 + (m.1 7 (v2).toNatClampNeg).toNatClampNeg) (m.1 6 (v2).toNatClampNeg).toNatClampNeg), .int (m.1 6 (v2).toNatClampNeg), .ref (39 + (m.1 7 (v2).toNatClampNeg).toNatClampNeg)] (sm_hp (sm_w1 m (39 + (m.1 6 (v2).toNatClampNeg).toNatClampNeg) (m.1 7 (v2).toNatClampNeg).toNatClampNeg (if r8 < (m.1 (39 + (m.1 6 (v2).toNatClampNeg).toNatClampNeg) (m.1 7 (v2).toNatClampNeg).toNatClampNeg) then r8 else (m.1 (39 + (m.1 6 (v2).toNatClampNeg).toNatClampNeg) (m.1 7 (v2).toNatClampNeg).toNatClampNeg)))) [((m.1 6 (v2).toNatClampNeg), 10)] (sm_run1 (i_ia_row q11)) (sm_oc q12 (sm_on)) ?_
        refine w_blk bX1_layPaths_129 [.ref 34, .ref 3, .int v2, .int (m.1 6 (v2).toNatClampNeg), .int (m.1 7 (v2).toNatClampNeg)] [.int (m.1 7 (v2).toNatClampNeg), .int v2, .ref 3, .int ((sm_w1 m (39 + (m.1 6 (v2).toNatClampNeg).toNatClampNeg) (m.1 7 (v2).toNatClampNeg).toNatClampNeg (if r8 < (m.1 (39 + (m.1 6 (v2).toNatClampNeg).toNatClampNeg) (m.1 7 (v2).toNatClampNeg).toNatClampNeg) then r8 else (m.1 (39 + (m.1 6 (v2).toNatClampNeg).toNatClampNeg) (m.1 7 (v2).toNatClampNeg).toNatClampNeg))).1 (39 + (m.1 7 (v2).toNatClampNeg).toNatClampNeg) (m.1 6 (v2).toNatClampNeg).toNatClampNeg), .int (m.1 6 (v2).toNatClampNeg), .ref (39 + (m.1 7 (v2).toNatClampNeg).toNatClampNeg)] (sm_hp (sm_w1 m (39 + (m.1 6 (v2).toNatClampNeg).toNatClampNeg) (m.1 7 (v2).toNatClampNeg).toNatClampNeg (if r8 < (m.1 (39 + (m.1 6 (v2).toNatClampNeg).toNatClampNeg) (m.1 7 (v2).toNatClampNeg).toNatClampNeg) then r8 else (m.1 (39 + (m.1 6 (v2).toNatClampNeg).toNatClampNeg) (m.1 7 (v2).toNatClampNeg).toNatClampNeg)))) [] rfl (sm_on) ?_
        replace hf := sm_bd hf
        obtain ⟨r14, q13, hf⟩ := hf
        refine w_callV [.int v2, .int (m.1 7 (v2).toNatClampNeg)] [.int ((sm_w1 m (39 + (m.1 6 (v2).toNatClampNeg).toNatClampNeg) (m.1 7 (v2).toNatClampNeg).toNatClampNeg (if r8 < (m.1 (39 + (m.1 6 (v2).toNatClampNeg).toNatClampNeg) (m.1 7 (v2).toNatClampNeg).toNatClampNeg) then r8 else (m.1 (39 + (m.1 6 (v2).toNatClampNeg).toNatClampNeg) (m.1 7 (v2).toNatClampNeg).toNatClampNeg))).1 (39 + (m.1 7 (v2).toNatClampNeg).toNatClampNeg) (m.1 6 (v2).toNatClampNeg).toNatClampNeg), .int (m.1 6 (v2).toNatClampNeg), .ref (39 + (m.1 7 (v2).toNatClampNeg).toNatClampNeg)] (tX2_minutesFrom v2 (m.1 7 (v2).toNatClampNeg) (sm_w1 m (39 + (m.1 6 (v2).toNatClampNeg).toNatClampNeg) (m.1 7 (v2).toNatClampNeg).toNatClampNeg (if r8 < (m.1 (39 + (m.1 6 (v2).toNatClampNeg).toNatClampNeg) (m.1 7 (v2).toNatClampNeg).toNatClampNeg) then r8 else (m.1 (39 + (m.1 6 (v2).toNatClampNeg).toNatClampNeg) (m.1 7 (v2).toNatClampNeg).toNatClampNeg))) r14 q13) (cvX1_71 rfl) dX1_layPaths_133 rfl rfl (by decide) (by decide) rfl (Nat.le_of_ble_eq_true rfl) ?_
        show sm_W _ _ _ _ _ 136 [.ref 34, .ref 3, .int v2, .int (m.1 6 (v2).toNatClampNeg), .int (m.1 7 (v2).toNatClampNeg)] [.int r14, .int ((sm_w1 m (39 + (m.1 6 (v2).toNatClampNeg).toNatClampNeg) (m.1 7 (v2).toNatClampNeg).toNatClampNeg (if r8 < (m.1 (39 + (m.1 6 (v2).toNatClampNeg).toNatClampNeg) (m.1 7 (v2).toNatClampNeg).toNatClampNeg) then r8 else (m.1 (39 + (m.1 6 (v2).toNatClampNeg).toNatClampNeg) (m.1 7 (v2).toNatClampNeg).toNatClampNeg))).1 (39 + (m.1 7 (v2).toNatClampNeg).toNatClampNeg) (m.1 6 (v2).toNatClampNeg).toNatClampNeg), .int (m.1 6 (v2).toNatClampNeg), .ref (39 + (m.1 7 (v2).toNatClampNeg).toNatClampNeg)] (sm_hp (sm_w1 m (39 + (m.1 6 (v2).toNatClampNeg).toNatClampNeg) (m.1 7 (v2).toNatClampNeg).toNatClampNeg (if r8 < (m.1 (39 + (m.1 6 (v2).toNatClampNeg).toNatClampNeg) (m.1 7 (v2).toNatClampNeg).toNatClampNeg) then r8 else (m.1 (39 + (m.1 6 (v2).toNatClampNeg).toNatClampNeg) (m.1 7 (v2).toNatClampNeg).toNatClampNeg))))
        refine w_blk bX1_layPaths_136 [.ref 34, .ref 3, .int v2, .int (m.1 6 (v2).toNatClampNeg), .int (m.1 7 (v2).toNatClampNeg)] [.int (if r14 < ((sm_w1 m (39 + (m.1 6 (v2).toNatClampNeg).toNatClampNeg) (m.1 7 (v2).toNatClampNeg).toNatClampNeg (if r8 < (m.1 (39 + (m.1 6 (v2).toNatClampNeg).toNatClampNeg) (m.1 7 (v2).toNatClampNeg).toNatClampNeg) then r8 else (m.1 (39 + (m.1 6 (v2).toNatClampNeg).toNatClampNeg) (m.1 7 (v2).toNatClampNeg).toNatClampNeg))).1 (39 + (m.1 7 (v2).toNatClampNeg).toNatClampNeg) (m.1 6 (v2).toNatClampNeg).toNatClampNeg) then r14 else ((sm_w1 m (39 + (m.1 6 (v2).toNatClampNeg).toNatClampNeg) (m.1 7 (v2).toNatClampNeg).toNatClampNeg (if r8 < (m.1 (39 + (m.1 6 (v2).toNatClampNeg).toNatClampNeg) (m.1 7 (v2).toNatClampNeg).toNatClampNeg) then r8 else (m.1 (39 + (m.1 6 (v2).toNatClampNeg).toNatClampNeg) (m.1 7 (v2).toNatClampNeg).toNatClampNeg))).1 (39 + (m.1 7 (v2).toNatClampNeg).toNatClampNeg) (m.1 6 (v2).toNatClampNeg).toNatClampNeg)), .int (m.1 6 (v2).toNatClampNeg), .ref (39 + (m.1 7 (v2).toNatClampNeg).toNatClampNeg)] (sm_hp (sm_w1 m (39 + (m.1 6 (v2).toNatClampNeg).toNatClampNeg) (m.1 7 (v2).toNatClampNeg).toNatClampNeg (if r8 < (m.1 (39 + (m.1 6 (v2).toNatClampNeg).toNatClampNeg) (m.1 7 (v2).toNatClampNeg).toNatClampNeg) then r8 else (m.1 (39 + (m.1 6 (v2).toNatClampNeg).toNatClampNeg) (m.1 7 (v2).toNatClampNeg).toNatClampNeg)))) [] rfl (sm_on) ?_
        replace hf := sm_ck hf
        obtain ⟨q15, hf⟩ := hf
        refine w_blk bX1_layPaths_139 [.ref 34, .ref 3, .int v2, .int (m.1 6 (v2).toNatClampNeg), .int (m.1 7 (v2).toNatClampNeg)] [] (sm_hp (sm_w1 (sm_w1 m (39 + (m.1 6 (v2).toNatClampNeg).toNatClampNeg) (m.1 7 (v2).toNatClampNeg).toNatClampNeg (if r8 < (m.1 (39 + (m.1 6 (v2).toNatClampNeg).toNatClampNeg) (m.1 7 (v2).toNatClampNeg).toNatClampNeg) then r8 else (m.1 (39 + (m.1 6 (v2).toNatClampNeg).toNatClampNeg) (m.1 7 (v2).toNatClampNeg).toNatClampNeg))) (39 + (m.1 7 (v2).toNatClampNeg).toNatClampNeg) (m.1 6 (v2).toNatClampNeg).toNatClampNeg (if r14 < ((sm_w1 m (39 + (m.1 6 (v2).toNatClampNeg).toNatClampNeg) (m.1 7 (v2).toNatClampNeg).toNatClampNeg (if r8 < (m.1 (39 + (m.1 6 (v2).toNatClampNeg).toNatClampNeg) (m.1 7 (v2).toNatClampNeg).toNatClampNeg) then r8 else (m.1 (39 + (m.1 6 (v2).toNatClampNeg).toNatClampNeg) (m.1 7 (v2).toNatClampNeg).toNatClampNeg))).1 (39 + (m.1 7 (v2).toNatClampNeg).toNatClampNeg) (m.1 6 (v2).toNatClampNeg).toNatClampNeg) then r14 else ((sm_w1 m (39 + (m.1 6 (v2).toNatClampNeg).toNatClampNeg) (m.1 7 (v2).toNatClampNeg).toNatClampNeg (if r8 < (m.1 (39 + (m.1 6 (v2).toNatClampNeg).toNatClampNeg) (m.1 7 (v2).toNatClampNeg).toNatClampNeg) then r8 else (m.1 (39 + (m.1 6 (v2).toNatClampNeg).toNatClampNeg) (m.1 7 (v2).toNatClampNeg).toNatClampNeg))).1 (39 + (m.1 7 (v2).toNatClampNeg).toNatClampNeg) (m.1 6 (v2).toNatClampNeg).toNatClampNeg)))) [((m.1 6 (v2).toNatClampNeg), 10)] (sm_run1 (i_is_row q11)) (sm_oc q15 (sm_on)) ?_
        refine w_blk bX1_layPaths_140 [.ref 34, .ref 3, .int (v2 + (1 : Int32)), .int (m.1 6 (v2).toNatClampNeg), .int (m.1 7 (v2).toNatClampNeg)] [] (sm_hp (sm_w1 (sm_w1 m (39 + (m.1 6 (v2).toNatClampNeg).toNatClampNeg) (m.1 7 (v2).toNatClampNeg).toNatClampNeg (if r8 < (m.1 (39 + (m.1 6 (v2).toNatClampNeg).toNatClampNeg) (m.1 7 (v2).toNatClampNeg).toNatClampNeg) then r8 else (m.1 (39 + (m.1 6 (v2).toNatClampNeg).toNatClampNeg) (m.1 7 (v2).toNatClampNeg).toNatClampNeg))) (39 + (m.1 7 (v2).toNatClampNeg).toNatClampNeg) (m.1 6 (v2).toNatClampNeg).toNatClampNeg (if r14 < ((sm_w1 m (39 + (m.1 6 (v2).toNatClampNeg).toNatClampNeg) (m.1 7 (v2).toNatClampNeg).toNatClampNeg (if r8 < (m.1 (39 + (m.1 6 (v2).toNatClampNeg).toNatClampNeg) (m.1 7 (v2).toNatClampNeg).toNatClampNeg) then r8 else (m.1 (39 + (m.1 6 (v2).toNatClampNeg).toNatClampNeg) (m.1 7 (v2).toNatClampNeg).toNatClampNeg))).1 (39 + (m.1 7 (v2).toNatClampNeg).toNatClampNeg) (m.1 6 (v2).toNatClampNeg).toNatClampNeg) then r14 else ((sm_w1 m (39 + (m.1 6 (v2).toNatClampNeg).toNatClampNeg) (m.1 7 (v2).toNatClampNeg).toNatClampNeg (if r8 < (m.1 (39 + (m.1 6 (v2).toNatClampNeg).toNatClampNeg) (m.1 7 (v2).toNatClampNeg).toNatClampNeg) then r8 else (m.1 (39 + (m.1 6 (v2).toNatClampNeg).toNatClampNeg) (m.1 7 (v2).toNatClampNeg).toNatClampNeg))).1 (39 + (m.1 7 (v2).toNatClampNeg).toNatClampNeg) (m.1 6 (v2).toNatClampNeg).toNatClampNeg)))) [] rfl (sm_on) ?_
        refine w_goto (tgt := 53) dX1_layPaths_143 rfl ?_
        refine w_wk [true, true, true, false, false] ?_
        exact ih (v2 + (1 : Int32)) (sm_w1 (sm_w1 m (39 + (m.1 6 (v2).toNatClampNeg).toNatClampNeg) (m.1 7 (v2).toNatClampNeg).toNatClampNeg (if r8 < (m.1 (39 + (m.1 6 (v2).toNatClampNeg).toNatClampNeg) (m.1 7 (v2).toNatClampNeg).toNatClampNeg) then r8 else (m.1 (39 + (m.1 6 (v2).toNatClampNeg).toNatClampNeg) (m.1 7 (v2).toNatClampNeg).toNatClampNeg))) (39 + (m.1 7 (v2).toNatClampNeg).toNatClampNeg) (m.1 6 (v2).toNatClampNeg).toNatClampNeg (if r14 < ((sm_w1 m (39 + (m.1 6 (v2).toNatClampNeg).toNatClampNeg) (m.1 7 (v2).toNatClampNeg).toNatClampNeg (if r8 < (m.1 (39 + (m.1 6 (v2).toNatClampNeg).toNatClampNeg) (m.1 7 (v2).toNatClampNeg).toNatClampNeg) then r8 else (m.1 (39 + (m.1 6 (v2).toNatClampNeg).toNatClampNeg) (m.1 7 (v2).toNatClampNeg).toNatClampNeg))).1 (39 + (m.1 7 (v2).toNatClampNeg).toNatClampNeg) (m.1 6 (v2).toNatClampNeg).toNatClampNeg) then r14 else ((sm_w1 m (39 + (m.1 6 (v2).toNatClampNeg).toNatClampNeg) (m.1 7 (v2).toNatClampNeg).toNatClampNeg (if r8 < (m.1 (39 + (m.1 6 (v2).toNatClampNeg).toNatClampNeg) (m.1 7 (v2).toNatClampNeg).toNatClampNeg) then r8 else (m.1 (39 + (m.1 6 (v2).toNatClampNeg).toNatClampNeg) (m.1 7 (v2).toNatClampNeg).toNatClampNeg))).1 (39 + (m.1 7 (v2).toNatClampNeg).toNatClampNeg) (m.1 6 (v2).toNatClampNeg).toNatClampNeg))) r hf
set_option maxRecDepth 10000 in
theorem tX1_layPaths_12 {l : Launch} {al : Bool} (k2 : Int32 → sm_S → Option (sm_S)) (hk2 : ∀ (v2 : Int32) (m : sm_S) (r : sm_S), k2 v2 m = some r → sm_W l mX1_layPaths 2 al (none, sm_hp r) 2 [.ref 34, .ref 3, .int v2, .retAddr 0, .retAddr 0] [] (sm_hp m)) : ∀ (n : Nat) (v2 : Int32) (v3 : Int32) (m : sm_S) (r : sm_S), fX1_layPaths_12 k2 n v2 v3 m = some r → sm_W l mX1_layPaths 2 al (none, sm_hp r) 12 [.ref 34, .ref 3, .int v2, .int v3, .retAddr 0] [] (sm_hp m) := by
  intro n
  induction n with
  | zero =>
    intro v2 v3 m r hf
    unfold fX1_layPaths_12 at hf
    cases hf
  | succ n ih =>
    intro v2 v3 m r hf
    unfold fX1_layPaths_12 at hf
    refine w_blk bX1_layPaths_12 [.ref 34, .ref 3, .int v2, .int v3, .retAddr 0] [.int (m.1 3 0), .int v3] (sm_hp m) [] rfl (sm_on) ?_
    refine w_icmp_ge (tgt := 45) dX1_layPaths_17 rfl (fun hc => ?_) (fun hc => ?_)
    · replace hf := sm_ift hc hf
      refine w_blk bX1_layPaths_45 [.ref 34, .ref 3, .int (v2 + (1 : Int32)), .int v3, .retAddr 0] [] (sm_hp m) [] rfl (sm_on) ?_
      refine w_goto (tgt := 2) dX1_layPaths_48 rfl ?_
      refine w_wk [true, true, true, false, false] ?_
      exact hk2 (v2 + (1 : Int32)) m r hf
    · replace hf := sm_iff hc hf
      refine w_blk bX1_layPaths_20 [.ref 34, .ref 3, .int v2, .int v3, .retAddr 0] [.int v2, .ref 38] (sm_hp m) [] rfl (sm_on) ?_
      replace hf := sm_ck hf
      obtain ⟨q16, hf⟩ := hf
      refine w_blk bX1_layPaths_25 [.ref 34, .ref 3, .int v2, .int v3, .retAddr 0] [.ref (39 + (v2).toNatClampNeg)] (sm_hp m) [(v2, 10)] (sm_run1 (i_aa_row q16)) (sm_oc q16 (sm_on)) ?_
      refine w_blk bX1_layPaths_26 [.ref 34, .ref 3, .int v2, .int v3, .retAddr 0] [.int v3, .int v2, .int v3, .ref (39 + (v2).toNatClampNeg)] (sm_hp m) [] rfl (sm_on) ?_
      refine w_icmp_ne (tgt := 36) dX1_layPaths_29 rfl (fun hc => ?_) (fun hc => ?_)
      · replace hf := sm_iff hc hf
        refine w_blk bX1_layPaths_36 [.ref 34, .ref 3, .int v2, .int v3, .retAddr 0] [.int (65535 : Int32), .int v3, .ref (39 + (v2).toNatClampNeg)] (sm_hp m) [] rfl (sm_on) ?_
        replace hf := sm_ck hf
        obtain ⟨q17, hf⟩ := hf
        refine w_blk bX1_layPaths_38 [.ref 34, .ref 3, .int v2, .int v3, .retAddr 0] [] (sm_hp (sm_w1 m (39 + (v2).toNatClampNeg) (v3).toNatClampNeg (65535 : Int32))) [(v3, 10)] (sm_run1 (i_is_row q16)) (sm_oc q17 (sm_on)) ?_
        refine w_blk bX1_layPaths_39 [.ref 34, .ref 3, .int v2, .int (v3 + (1 : Int32)), .retAddr 0] [] (sm_hp (sm_w1 m (39 + (v2).toNatClampNeg) (v3).toNatClampNeg (65535 : Int32))) [] rfl (sm_on) ?_
        refine w_goto (tgt := 12) dX1_layPaths_42 rfl ?_
        exact ih v2 (v3 + (1 : Int32)) (sm_w1 m (39 + (v2).toNatClampNeg) (v3).toNatClampNeg (65535 : Int32)) r hf
      · replace hf := sm_ift hc hf
        refine w_blk bX1_layPaths_32 [.ref 34, .ref 3, .int v2, .int v3, .retAddr 0] [.int (0 : Int32), .int v3, .ref (39 + (v2).toNatClampNeg)] (sm_hp m) [] rfl (sm_on) ?_
        refine w_goto (tgt := 38) dX1_layPaths_33 rfl ?_
        replace hf := sm_ck hf
        obtain ⟨q18, hf⟩ := hf
        refine w_blk bX1_layPaths_38 [.ref 34, .ref 3, .int v2, .int v3, .retAddr 0] [] (sm_hp (sm_w1 m (39 + (v2).toNatClampNeg) (v3).toNatClampNeg (0 : Int32))) [(v3, 10)] (sm_run1 (i_is_row q16)) (sm_oc q18 (sm_on)) ?_
        refine w_blk bX1_layPaths_39 [.ref 34, .ref 3, .int v2, .int (v3 + (1 : Int32)), .retAddr 0] [] (sm_hp (sm_w1 m (39 + (v2).toNatClampNeg) (v3).toNatClampNeg (0 : Int32))) [] rfl (sm_on) ?_
        refine w_goto (tgt := 12) dX1_layPaths_42 rfl ?_
        exact ih v2 (v3 + (1 : Int32)) (sm_w1 m (39 + (v2).toNatClampNeg) (v3).toNatClampNeg (0 : Int32)) r hf
set_option maxRecDepth 10000 in
theorem tX1_layPaths_2 {l : Launch} {al : Bool} : ∀ (n : Nat) (v2 : Int32) (m : sm_S) (r : sm_S), fX1_layPaths_2 n v2 m = some r → sm_W l mX1_layPaths 2 al (none, sm_hp r) 2 [.ref 34, .ref 3, .int v2, .retAddr 0, .retAddr 0] [] (sm_hp m) := by
  intro n
  induction n with
  | zero =>
    intro v2 m r hf
    unfold fX1_layPaths_2 at hf
    cases hf
  | succ n ih =>
    intro v2 m r hf
    unfold fX1_layPaths_2 at hf
    refine w_blk bX1_layPaths_2 [.ref 34, .ref 3, .int v2, .retAddr 0, .retAddr 0] [.int (m.1 3 0), .int v2] (sm_hp m) [] rfl (sm_on) ?_
    refine w_icmp_ge (tgt := 51) dX1_layPaths_7 rfl (fun hc => ?_) (fun hc => ?_)
    · replace hf := sm_ift hc hf
      refine w_blk bX1_layPaths_51 [.ref 34, .ref 3, .int (0 : Int32), .retAddr 0, .retAddr 0] [] (sm_hp m) [] rfl (sm_on) ?_
      exact tX1_layPaths_53 sm_fu (0 : Int32) m r hf
    · replace hf := sm_iff hc hf
      refine w_blk bX1_layPaths_10 [.ref 34, .ref 3, .int v2, .int (0 : Int32), .retAddr 0] [] (sm_hp m) [] rfl (sm_on) ?_
      exact tX1_layPaths_12 (fX1_layPaths_2 n) ih sm_fu v2 (0 : Int32) m r hf
set_option maxRecDepth 10000 in
theorem tX1_layPaths {l : Launch} {al : Bool} (m : sm_S) (r : sm_S) (hf : fX1_layPaths m = some r) : sm_Rt l mX1_layPaths 2 0 0 al al [.ref 34, .ref 3] (sm_hp m) (none, sm_hp r) := by
  refine sm_Rt.ofW (L := [.ref 34, .ref 3, .retAddr 0, .retAddr 0, .retAddr 0]) (by decide) (Nat.le_of_ble_eq_true rfl) rfl ?_
  unfold fX1_layPaths at hf
  refine w_blk bX1_layPaths_0 [.ref 34, .ref 3, .int (0 : Int32), .retAddr 0, .retAddr 0] [] (sm_hp m) [] rfl (sm_on) ?_
  exact tX1_layPaths_2 sm_fu (0 : Int32) m r hf
set_option maxRecDepth 10000 in
theorem tX1_shortenPaths_23 {l : Launch} {al : Bool} (k12 : Int32 → Int32 → sm_S → Option (sm_S)) (k2 : Int32 → sm_S → Option (sm_S)) (hk12 : ∀ (v2 : Int32) (v3 : Int32) (m : sm_S) (r : sm_S), k12 v2 v3 m = some r → sm_W l mX1_shortenPaths 1 al (none, sm_hp r) 12 [.ref 34, .ref 3, .int v2, .int v3, .retAddr 0] [] (sm_hp m)) (hk2 : ∀ (v2 : Int32) (m : sm_S) (r : sm_S), k2 v2 m = some r → sm_W l mX1_shortenPaths 1 al (none, sm_hp r) 2 [.ref 34, .ref 3, .int v2, .retAddr 0, .retAddr 0] [] (sm_hp m)) : ∀ (n : Nat) (v2 : Int32) (v3 : Int32) (v4 : Int32) (m : sm_S) (r : sm_S), fX1_shortenPaths_23 k12 k2 n v2 v3 v4 m = some r → sm_W l mX1_shortenPaths 1 al (none, sm_hp r) 23 [.ref 34, .ref 3, .int v2, .int v3, .int v4] [] (sm_hp m) := by
  intro n
  induction n with
  | zero =>
    intro v2 v3 v4 m r hf
    unfold fX1_shortenPaths_23 at hf
    cases hf
  | succ n ih =>
    intro v2 v3 v4 m r hf
    unfold fX1_shortenPaths_23 at hf
    refine w_blk bX1_shortenPaths_23 [.ref 34, .ref 3, .int v2, .int v3, .int v4] [.int (m.1 3 0), .int v4] (sm_hp m) [] rfl (sm_on) ?_
    refine w_icmp_ge (tgt := 77) dX1_shortenPaths_29 rfl (fun hc => ?_) (fun hc => ?_)
    · replace hf := sm_ift hc hf
      refine w_blk bX1_shortenPaths_77 [.ref 34, .ref 3, .int v2, .int (v3 + (1 : Int32)), .int v4] [] (sm_hp m) [] rfl (sm_on) ?_
      refine w_goto (tgt := 12) dX1_shortenPaths_80 rfl ?_
      refine w_wk [true, true, true, true, false] ?_
      exact hk12 v2 (v3 + (1 : Int32)) m r hf
    · replace hf := sm_iff hc hf
      refine w_blk bX1_shortenPaths_32 [.ref 34, .ref 3, .int v2, .int v3, .int v4] [.int v3, .ref 38] (sm_hp m) [] rfl (sm_on) ?_
      replace hf := sm_ck hf
      obtain ⟨q1, hf⟩ := hf
      refine w_blk bX1_shortenPaths_37 [.ref 34, .ref 3, .int v2, .int v3, .int v4] [.ref (39 + (v3).toNatClampNeg)] (sm_hp m) [(v3, 10)] (sm_run1 (i_aa_row q1)) (sm_oc q1 (sm_on)) ?_
      refine w_blk bX1_shortenPaths_38 [.ref 34, .ref 3, .int v2, .int v3, .int v4] [.int v3, .ref 38, .int v4, .ref (39 + (v3).toNatClampNeg)] (sm_hp m) [] rfl (sm_on) ?_
      replace hf := sm_ck hf
      obtain ⟨q2, hf⟩ := hf
      refine w_blk bX1_shortenPaths_45 [.ref 34, .ref 3, .int v2, .int v3, .int v4] [.ref (39 + (v3).toNatClampNeg), .int v4, .ref (39 + (v3).toNatClampNeg)] (sm_hp m) [(v3, 10)] (sm_run1 (i_aa_row q2)) (sm_oc q2 (sm_on)) ?_
      refine w_blk bX1_shortenPaths_46 [.ref 34, .ref 3, .int v2, .int v3, .int v4] [.int v4, .ref (39 + (v3).toNatClampNeg), .int v4, .ref (39 + (v3).toNatClampNeg)] (sm_hp m) [] rfl (sm_on) ?_
      replace hf := sm_ck hf
      obtain ⟨q3, hf⟩ := hf
      refine w_blk bX1_shortenPaths_48 [.ref 34, .ref 3, .int v2, .int v3, .int v4] [.int (m.1 (39 + (v3).toNatClampNeg) (v4).toNatClampNeg), .int v4, .ref (39 + (v3).toNatClampNeg)] (sm_hp m) [(v4, 10)] (sm_run1 (i_ia_row q2)) (sm_oc q3 (sm_on)) ?_
      refine w_blk bX1_shortenPaths_49 [.ref 34, .ref 3, .int v2, .int v3, .int v4] [.int v3, .ref 38, .int (m.1 (39 + (v3).toNatClampNeg) (v4).toNatClampNeg), .int v4, .ref (39 + (v3).toNatClampNeg)] (sm_hp m) [] rfl (sm_on) ?_
      replace hf := sm_ck hf
      obtain ⟨q4, hf⟩ := hf
      refine w_blk bX1_shortenPaths_54 [.ref 34, .ref 3, .int v2, .int v3, .int v4] [.ref (39 + (v3).toNatClampNeg), .int (m.1 (39 + (v3).toNatClampNeg) (v4).toNatClampNeg), .int v4, .ref (39 + (v3).toNatClampNeg)] (sm_hp m) [(v3, 10)] (sm_run1 (i_aa_row q4)) (sm_oc q4 (sm_on)) ?_
      refine w_blk bX1_shortenPaths_55 [.ref 34, .ref 3, .int v2, .int v3, .int v4] [.int v2, .ref (39 + (v3).toNatClampNeg), .int (m.1 (39 + (v3).toNatClampNeg) (v4).toNatClampNeg), .int v4, .ref (39 + (v3).toNatClampNeg)] (sm_hp m) [] rfl (sm_on) ?_
      replace hf := sm_ck hf
      obtain ⟨q5, hf⟩ := hf
      refine w_blk bX1_shortenPaths_56 [.ref 34, .ref 3, .int v2, .int v3, .int v4] [.int (m.1 (39 + (v3).toNatClampNeg) (v2).toNatClampNeg), .int (m.1 (39 + (v3).toNatClampNeg) (v4).toNatClampNeg), .int v4, .ref (39 + (v3).toNatClampNeg)] (sm_hp m) [(v2, 10)] (sm_run1 (i_ia_row q4)) (sm_oc q5 (sm_on)) ?_
      refine w_blk bX1_shortenPaths_57 [.ref 34, .ref 3, .int v2, .int v3, .int v4] [.int v2, .ref 38, .int (m.1 (39 + (v3).toNatClampNeg) (v2).toNatClampNeg), .int (m.1 (39 + (v3).toNatClampNeg) (v4).toNatClampNeg), .int v4, .ref (39 + (v3).toNatClampNeg)] (sm_hp m) [] rfl (sm_on) ?_
      replace hf := sm_ck hf
      obtain ⟨q6, hf⟩ := hf
      refine w_blk bX1_shortenPaths_62 [.ref 34, .ref 3, .int v2, .int v3, .int v4] [.ref (39 + (v2).toNatClampNeg), .int (m.1 (39 + (v3).toNatClampNeg) (v2).toNatClampNeg), .int (m.1 (39 + (v3).toNatClampNeg) (v4).toNatClampNeg), .int v4, .ref (39 + (v3).toNatClampNeg)] (sm_hp m) [(v2, 10)] (sm_run1 (i_aa_row q6)) (sm_oc q6 (sm_on)) ?_
      refine w_blk bX1_shortenPaths_63 [.ref 34, .ref 3, .int v2, .int v3, .int v4] [.int v4, .ref (39 + (v2).toNatClampNeg), .int (m.1 (39 + (v3).toNatClampNeg) (v2).toNatClampNeg), .int (m.1 (39 + (v3).toNatClampNeg) (v4).toNatClampNeg), .int v4, .ref (39 + (v3).toNatClampNeg)] (sm_hp m) [] rfl (sm_on) ?_
      replace hf := sm_ck hf
      obtain ⟨q7, hf⟩ := hf
      refine w_blk bX1_shortenPaths_65 [.ref 34, .ref 3, .int v2, .int v3, .int v4] [.int (m.1 (39 + (v2).toNatClampNeg) (v4).toNatClampNeg), .int (m.1 (39 + (v3).toNatClampNeg) (v2).toNatClampNeg), .int (m.1 (39 + (v3).toNatClampNeg) (v4).toNatClampNeg), .int v4, .ref (39 + (v3).toNatClampNeg)] (sm_hp m) [(v4, 10)] (sm_run1 (i_ia_row q6)) (sm_oc q7 (sm_on)) ?_
      refine w_blk bX1_shortenPaths_66 [.ref 34, .ref 3, .int v2, .int v3, .int v4] [.int (if ((m.1 (39 + (v3).toNatClampNeg) (v2).toNatClampNeg) + (m.1 (39 + (v2).toNatClampNeg) (v4).toNatClampNeg)) < (m.1 (39 + (v3).toNatClampNeg) (v4).toNatClampNeg) then ((m.1 (39 + (v3).toNatClampNeg) (v2).toNatClampNeg) + (m.1 (39 + (v2).toNatClampNeg) (v4).toNatClampNeg)) else (m.1 (39 + (v3).toNatClampNeg) (v4).toNatClampNeg)), .int v4, .ref (39 + (v3).toNatClampNeg)] (sm_hp m) [] rfl (sm_on) ?_
      replace hf := sm_ck hf
      obtain ⟨q8, hf⟩ := hf
      refine w_blk bX1_shortenPaths_70 [.ref 34, .ref 3, .int v2, .int v3, .int v4] [] (sm_hp (sm_w1 m (39 + (v3).toNatClampNeg) (v4).toNatClampNeg (if ((m.1 (39 + (v3).toNatClampNeg) (v2).toNatClampNeg) + (m.1 (39 + (v2).toNatClampNeg) (v4).toNatClampNeg)) < (m.1 (39 + (v3).toNatClampNeg) (v4).toNatClampNeg) then ((m.1 (39 + (v3).toNatClampNeg) (v2).toNatClampNeg) + (m.1 (39 + (v2).toNatClampNeg) (v4).toNatClampNeg)) else (m.1 (39 + (v3).toNatClampNeg) (v4).toNatClampNeg)))) [(v4, 10)] (sm_run1 (i_is_row q4)) (sm_oc q8 (sm_on)) ?_
      refine w_blk bX1_shortenPaths_71 [.ref 34, .ref 3, .int v2, .int v3, .int (v4 + (1 : Int32))] [] (sm_hp (sm_w1 m (39 + (v3).toNatClampNeg) (v4).toNatClampNeg (if ((m.1 (39 + (v3).toNatClampNeg) (v2).toNatClampNeg) + (m.1 (39 + (v2).toNatClampNeg) (v4).toNatClampNeg)) < (m.1 (39 + (v3).toNatClampNeg) (v4).toNatClampNeg) then ((m.1 (39 + (v3).toNatClampNeg) (v2).toNatClampNeg) + (m.1 (39 + (v2).toNatClampNeg) (v4).toNatClampNeg)) else (m.1 (39 + (v3).toNatClampNeg) (v4).toNatClampNeg)))) [] rfl (sm_on) ?_
      refine w_goto (tgt := 23) dX1_shortenPaths_74 rfl ?_
      exact ih v2 v3 (v4 + (1 : Int32)) (sm_w1 m (39 + (v3).toNatClampNeg) (v4).toNatClampNeg (if ((m.1 (39 + (v3).toNatClampNeg) (v2).toNatClampNeg) + (m.1 (39 + (v2).toNatClampNeg) (v4).toNatClampNeg)) < (m.1 (39 + (v3).toNatClampNeg) (v4).toNatClampNeg) then ((m.1 (39 + (v3).toNatClampNeg) (v2).toNatClampNeg) + (m.1 (39 + (v2).toNatClampNeg) (v4).toNatClampNeg)) else (m.1 (39 + (v3).toNatClampNeg) (v4).toNatClampNeg))) r hf
set_option maxRecDepth 10000 in
theorem tX1_shortenPaths_12 {l : Launch} {al : Bool} (k2 : Int32 → sm_S → Option (sm_S)) (hk2 : ∀ (v2 : Int32) (m : sm_S) (r : sm_S), k2 v2 m = some r → sm_W l mX1_shortenPaths 1 al (none, sm_hp r) 2 [.ref 34, .ref 3, .int v2, .retAddr 0, .retAddr 0] [] (sm_hp m)) : ∀ (n : Nat) (v2 : Int32) (v3 : Int32) (m : sm_S) (r : sm_S), fX1_shortenPaths_12 k2 n v2 v3 m = some r → sm_W l mX1_shortenPaths 1 al (none, sm_hp r) 12 [.ref 34, .ref 3, .int v2, .int v3, .retAddr 0] [] (sm_hp m) := by
  intro n
  induction n with
  | zero =>
    intro v2 v3 m r hf
    unfold fX1_shortenPaths_12 at hf
    cases hf
  | succ n ih =>
    intro v2 v3 m r hf
    unfold fX1_shortenPaths_12 at hf
    refine w_blk bX1_shortenPaths_12 [.ref 34, .ref 3, .int v2, .int v3, .retAddr 0] [.int (m.1 3 0), .int v3] (sm_hp m) [] rfl (sm_on) ?_
    refine w_icmp_ge (tgt := 83) dX1_shortenPaths_17 rfl (fun hc => ?_) (fun hc => ?_)
    · replace hf := sm_ift hc hf
      refine w_blk bX1_shortenPaths_83 [.ref 34, .ref 3, .int (v2 + (1 : Int32)), .int v3, .retAddr 0] [] (sm_hp m) [] rfl (sm_on) ?_
      refine w_goto (tgt := 2) dX1_shortenPaths_86 rfl ?_
      refine w_wk [true, true, true, false, false] ?_
      exact hk2 (v2 + (1 : Int32)) m r hf
    · replace hf := sm_iff hc hf
      refine w_blk bX1_shortenPaths_20 [.ref 34, .ref 3, .int v2, .int v3, .int (0 : Int32)] [] (sm_hp m) [] rfl (sm_on) ?_
      exact tX1_shortenPaths_23 (fX1_shortenPaths_12 k2 n) k2 ih hk2 sm_fu v2 v3 (0 : Int32) m r hf
set_option maxRecDepth 10000 in
theorem tX1_shortenPaths_2 {l : Launch} {al : Bool} : ∀ (n : Nat) (v2 : Int32) (m : sm_S) (r : sm_S), fX1_shortenPaths_2 n v2 m = some r → sm_W l mX1_shortenPaths 1 al (none, sm_hp r) 2 [.ref 34, .ref 3, .int v2, .retAddr 0, .retAddr 0] [] (sm_hp m) := by
  intro n
  induction n with
  | zero =>
    intro v2 m r hf
    unfold fX1_shortenPaths_2 at hf
    cases hf
  | succ n ih =>
    intro v2 m r hf
    unfold fX1_shortenPaths_2 at hf
    refine w_blk bX1_shortenPaths_2 [.ref 34, .ref 3, .int v2, .retAddr 0, .retAddr 0] [.int (m.1 3 0), .int v2] (sm_hp m) [] rfl (sm_on) ?_
    refine w_icmp_ge (tgt := 89) dX1_shortenPaths_7 rfl (fun hc => ?_) (fun hc => ?_)
    · replace hf := sm_ift hc hf
      obtain rfl := Option.some.inj hf
      exact w_retv dX1_shortenPaths_89 rfl
    · replace hf := sm_iff hc hf
      refine w_blk bX1_shortenPaths_10 [.ref 34, .ref 3, .int v2, .int (0 : Int32), .retAddr 0] [] (sm_hp m) [] rfl (sm_on) ?_
      exact tX1_shortenPaths_12 (fX1_shortenPaths_2 n) ih sm_fu v2 (0 : Int32) m r hf
set_option maxRecDepth 10000 in
theorem tX1_shortenPaths {l : Launch} {al : Bool} (m : sm_S) (r : sm_S) (hf : fX1_shortenPaths m = some r) : sm_Rt l mX1_shortenPaths 1 0 0 al al [.ref 34, .ref 3] (sm_hp m) (none, sm_hp r) := by
  refine sm_Rt.ofW (L := [.ref 34, .ref 3, .retAddr 0, .retAddr 0, .retAddr 0]) (by decide) (Nat.le_of_ble_eq_true rfl) rfl ?_
  unfold fX1_shortenPaths at hf
  refine w_blk bX1_shortenPaths_0 [.ref 34, .ref 3, .int (0 : Int32), .retAddr 0, .retAddr 0] [] (sm_hp m) [] rfl (sm_on) ?_
  exact tX1_shortenPaths_2 sm_fu (0 : Int32) m r hf
set_option maxRecDepth 10000 in
theorem tX1_numberInPart_20 {l : Launch} {al : Bool} : ∀ (n : Nat) (v1 : Int32) (v2 : Int32) (m : sm_S) (r : sm_S), fX1_numberInPart_20 n v1 v2 m = some r → sm_W l mX1_numberInPart 1 al (none, sm_hp r) 20 [.ref 34, .int v1, .int v2] [] (sm_hp m) := by
  intro n
  induction n with
  | zero =>
    intro v1 v2 m r hf
    unfold fX1_numberInPart_20 at hf
    cases hf
  | succ n ih =>
    intro v1 v2 m r hf
    unfold fX1_numberInPart_20 at hf
    refine w_blk bX1_numberInPart_20 [.ref 34, .int v1, .int v2] [.int v2] (sm_hp m) [] rfl (sm_on) ?_
    refine w_if_lt (tgt := 62) dX1_numberInPart_21 rfl (fun hc => ?_) (fun hc => ?_)
    · replace hf := sm_ift hc hf
      obtain rfl := Option.some.inj hf
      exact w_retv dX1_numberInPart_62 rfl
    · replace hf := sm_iff hc hf
      refine w_blk bX1_numberInPart_24 [.ref 34, .int v1, .int v2] [.int v2, .ref 38] (sm_hp m) [] rfl (sm_on) ?_
      replace hf := sm_ck hf
      obtain ⟨q3, hf⟩ := hf
      refine w_blk bX1_numberInPart_29 [.ref 34, .int v1, .int v2] [.ref (39 + (v2).toNatClampNeg)] (sm_hp m) [(v2, 10)] (sm_run1 (i_aa_row q3)) (sm_oc q3 (sm_on)) ?_
      refine w_blk bX1_numberInPart_30 [.ref 34, .int v1, .int v2] [.int v1, .ref (39 + (v2).toNatClampNeg)] (sm_hp m) [] rfl (sm_on) ?_
      replace hf := sm_ck hf
      obtain ⟨q4, hf⟩ := hf
      refine w_blk bX1_numberInPart_31 [.ref 34, .int v1, .int v2] [.int (m.1 (39 + (v2).toNatClampNeg) (v1).toNatClampNeg)] (sm_hp m) [(v1, 10)] (sm_run1 (i_ia_row q3)) (sm_oc q4 (sm_on)) ?_
      refine w_blk bX1_numberInPart_32 [.ref 34, .int v1, .int v2] [.int (65535 : Int32), .int (m.1 (39 + (v2).toNatClampNeg) (v1).toNatClampNeg)] (sm_hp m) [] rfl (sm_on) ?_
      refine w_icmp_ge (tgt := 56) dX1_numberInPart_34 rfl (fun hc => ?_) (fun hc => ?_)
      · replace hf := sm_ift hc hf
        refine w_blk bX1_numberInPart_56 [.ref 34, .int v1, .int (v2 + (-1 : Int32))] [] (sm_hp m) [] rfl (sm_on) ?_
        refine w_goto (tgt := 20) dX1_numberInPart_59 rfl ?_
        exact ih v1 (v2 + (-1 : Int32)) m r hf
      · replace hf := sm_iff hc hf
        refine w_blk bX1_numberInPart_37 [.ref 34, .int v1, .int v2] [.int ((1 : Int32) <<< (v2 &&& 31)), .int v1, .ref 36] (sm_hp m) [] rfl (sm_on) ?_
        replace hf := sm_ck hf
        obtain ⟨q5, hf⟩ := hf
        refine w_blk bX1_numberInPart_45 [.ref 34, .int v1, .int v2] [] (sm_hp (sm_w1 m 36 (v1).toNatClampNeg ((1 : Int32) <<< (v2 &&& 31)))) [(v1, 10)] rfl (sm_oc q5 (sm_on)) ?_
        refine w_blk bX1_numberInPart_46 [.ref 34, .int v1, .int v2] [.int v1, .ref 37, .int v1, .ref 37] (sm_hp (sm_w1 m 36 (v1).toNatClampNeg ((1 : Int32) <<< (v2 &&& 31)))) [] rfl (sm_on) ?_
        replace hf := sm_ck hf
        obtain ⟨q6, hf⟩ := hf
        refine w_blk bX1_numberInPart_52 [.ref 34, .int v1, .int v2] [.int (m.1 37 (v1).toNatClampNeg), .int v1, .ref 37] (sm_hp (sm_w1 m 36 (v1).toNatClampNeg ((1 : Int32) <<< (v2 &&& 31)))) [(v1, 10)] rfl (sm_oc q6 (sm_on)) ?_
        refine w_blk bX1_numberInPart_53 [.ref 34, .int v1, .int v2] [.int ((m.1 37 (v1).toNatClampNeg) + (1 : Int32)), .int v1, .ref 37] (sm_hp (sm_w1 m 36 (v1).toNatClampNeg ((1 : Int32) <<< (v2 &&& 31)))) [] rfl (sm_on) ?_
        replace hf := sm_ck hf
        obtain ⟨q7, hf⟩ := hf
        refine w_blk bX1_numberInPart_55 [.ref 34, .int v1, .int v2] [] (sm_hp (sm_w1 (sm_w1 m 36 (v1).toNatClampNeg ((1 : Int32) <<< (v2 &&& 31))) 37 (v1).toNatClampNeg ((m.1 37 (v1).toNatClampNeg) + (1 : Int32)))) [(v1, 10)] rfl (sm_oc q7 (sm_on)) ?_
        refine w_blk bX1_numberInPart_56 [.ref 34, .int v1, .int (v2 + (-1 : Int32))] [] (sm_hp (sm_w1 (sm_w1 m 36 (v1).toNatClampNeg ((1 : Int32) <<< (v2 &&& 31))) 37 (v1).toNatClampNeg ((m.1 37 (v1).toNatClampNeg) + (1 : Int32)))) [] rfl (sm_on) ?_
        refine w_goto (tgt := 20) dX1_numberInPart_59 rfl ?_
        exact ih v1 (v2 + (-1 : Int32)) (sm_w1 (sm_w1 m 36 (v1).toNatClampNeg ((1 : Int32) <<< (v2 &&& 31))) 37 (v1).toNatClampNeg ((m.1 37 (v1).toNatClampNeg) + (1 : Int32))) r hf
set_option maxRecDepth 10000 in
theorem tX1_numberInPart {l : Launch} {al : Bool} (x1 : Int32) (m : sm_S) (r : sm_S) (hf : fX1_numberInPart x1 m = some r) : sm_Rt l mX1_numberInPart 1 0 0 al al [.ref 34, .int x1] (sm_hp m) (none, sm_hp r) := by
  refine sm_Rt.ofW (L := [.ref 34, .int x1, .retAddr 0]) (by decide) (Nat.le_of_ble_eq_true rfl) rfl ?_
  unfold fX1_numberInPart at hf
  refine w_blk bX1_numberInPart_0 [.ref 34, .int x1, .retAddr 0] [.int ((1 : Int32) <<< (x1 &&& 31)), .int x1, .ref 36] (sm_hp m) [] rfl (sm_on) ?_
  replace hf := sm_ck hf
  obtain ⟨q1, hf⟩ := hf
  refine w_blk bX1_numberInPart_8 [.ref 34, .int x1, .retAddr 0] [] (sm_hp (sm_w1 m 36 (x1).toNatClampNeg ((1 : Int32) <<< (x1 &&& 31)))) [(x1, 10)] rfl (sm_oc q1 (sm_on)) ?_
  refine w_blk bX1_numberInPart_9 [.ref 34, .int x1, .retAddr 0] [.int (0 : Int32), .int x1, .ref 37] (sm_hp (sm_w1 m 36 (x1).toNatClampNeg ((1 : Int32) <<< (x1 &&& 31)))) [] rfl (sm_on) ?_
  replace hf := sm_ck hf
  obtain ⟨q2, hf⟩ := hf
  refine w_blk bX1_numberInPart_15 [.ref 34, .int x1, .retAddr 0] [] (sm_hp (sm_w1 (sm_w1 m 36 (x1).toNatClampNeg ((1 : Int32) <<< (x1 &&& 31))) 37 (x1).toNatClampNeg (0 : Int32))) [(x1, 10)] rfl (sm_oc q2 (sm_on)) ?_
  refine w_blk bX1_numberInPart_16 [.ref 34, .int x1, .int (x1 - (1 : Int32))] [] (sm_hp (sm_w1 (sm_w1 m 36 (x1).toNatClampNeg ((1 : Int32) <<< (x1 &&& 31))) 37 (x1).toNatClampNeg (0 : Int32))) [] rfl (sm_on) ?_
  exact tX1_numberInPart_20 sm_fu x1 (x1 - (1 : Int32)) (sm_w1 (sm_w1 m 36 (x1).toNatClampNeg ((1 : Int32) <<< (x1 &&& 31))) 37 (x1).toNatClampNeg (0 : Int32)) r hf
set_option maxRecDepth 10000 in
theorem tX1_prepare_73 {l : Launch} {al : Bool} : ∀ (n : Nat) (v2 : Int32) (m : sm_S) (r : sm_S), fX1_prepare_73 n v2 m = some r → sm_W l mX1_prepare 3 al (none, sm_hp r) 73 [.ref 34, .ref 3, .int v2] [] (sm_hp m) := by
  intro n
  induction n with
  | zero =>
    intro v2 m r hf
    unfold fX1_prepare_73 at hf
    cases hf
  | succ n ih =>
    intro v2 m r hf
    unfold fX1_prepare_73 at hf
    refine w_blk bX1_prepare_73 [.ref 34, .ref 3, .int v2] [.int (m.1 3 0), .int v2] (sm_hp m) [] rfl (sm_on) ?_
    refine w_icmp_ge (tgt := 92) dX1_prepare_78 rfl (fun hc => ?_) (fun hc => ?_)
    · replace hf := sm_ift hc hf
      obtain rfl := Option.some.inj hf
      exact w_retv dX1_prepare_92 rfl
    · replace hf := sm_iff hc hf
      refine w_blk bX1_prepare_81 [.ref 34, .ref 3, .int v2] [.int v2, .ref 34] (sm_hp m) [] rfl (sm_on) ?_
      replace hf := sm_bd hf
      obtain ⟨m6, q5, hf⟩ := hf
      refine w_callV [.int v2] [] (tX1_numberInPart v2 m m6 q5) (cvX1_61 rfl) dX1_prepare_83 rfl rfl (by decide) (by decide) rfl (Nat.le_of_ble_eq_true rfl) ?_
      show sm_W _ _ _ _ _ 86 [.ref 34, .ref 3, .int v2] [] (sm_hp m6)
      refine w_blk bX1_prepare_86 [.ref 34, .ref 3, .int (v2 + (1 : Int32))] [] (sm_hp m6) [] rfl (sm_on) ?_
      refine w_goto (tgt := 73) dX1_prepare_89 rfl ?_
      exact ih (v2 + (1 : Int32)) m6 r hf
set_option maxRecDepth 10000 in
theorem tX1_prepare_7 {l : Launch} {al : Bool} : ∀ (n : Nat) (v2 : Int32) (m : sm_S) (r : sm_S), fX1_prepare_7 n v2 m = some r → sm_W l mX1_prepare 3 al (none, sm_hp r) 7 [.ref 34, .ref 3, .int v2] [] (sm_hp m) := by
  intro n
  induction n with
  | zero =>
    intro v2 m r hf
    unfold fX1_prepare_7 at hf
    cases hf
  | succ n ih =>
    intro v2 m r hf
    unfold fX1_prepare_7 at hf
    refine w_blk bX1_prepare_7 [.ref 34, .ref 3, .int v2] [.int (m.1 3 1), .int v2] (sm_hp m) [] rfl (sm_on) ?_
    refine w_icmp_ge (tgt := 50) dX1_prepare_12 rfl (fun hc => ?_) (fun hc => ?_)
    · replace hf := sm_ift hc hf
      refine w_blk bX1_prepare_50 [.ref 34, .ref 3, .int v2] [.ref 3, .ref 34] (sm_hp (sm_w1 m 34 2 ((15 : Int32) - (m.1 34 1)))) [] rfl (sm_on) ?_
      replace hf := sm_bd hf
      obtain ⟨m2, q1, hf⟩ := hf
      refine w_callV [.ref 3] [] (tX1_layPaths (sm_w1 m 34 2 ((15 : Int32) - (m.1 34 1))) m2 q1) (cvX1_51 rfl) dX1_prepare_63 rfl rfl (by decide) (by decide) rfl (Nat.le_of_ble_eq_true rfl) ?_
      show sm_W _ _ _ _ _ 66 [.ref 34, .ref 3, .int v2] [] (sm_hp m2)
      refine w_blk bX1_prepare_66 [.ref 34, .ref 3, .int v2] [.ref 3, .ref 34] (sm_hp m2) [] rfl (sm_on) ?_
      replace hf := sm_bd hf
      obtain ⟨m4, q3, hf⟩ := hf
      refine w_callV [.ref 3] [] (tX1_shortenPaths m2 m4 q3) (cvX1_55 rfl) dX1_prepare_68 rfl rfl (by decide) (by decide) rfl (Nat.le_of_ble_eq_true rfl) ?_
      show sm_W _ _ _ _ _ 71 [.ref 34, .ref 3, .int v2] [] (sm_hp m4)
      refine w_blk bX1_prepare_71 [.ref 34, .ref 3, .int (0 : Int32)] [] (sm_hp m4) [] rfl (sm_on) ?_
      exact tX1_prepare_73 sm_fu (0 : Int32) m4 r hf
    · replace hf := sm_iff hc hf
      replace hf := sm_ck hf
      obtain ⟨q7, hf⟩ := hf
      refine w_blk bX1_prepare_15 [.ref 34, .ref 3, .int v2] [.int (m.1 13 (v2).toNatClampNeg)] (sm_hp m) [(v2, 14)] rfl (sm_oc q7 (sm_on)) ?_
      refine w_if_eq (tgt := 44) dX1_prepare_21 rfl (fun hc => ?_) (fun hc => ?_)
      · replace hf := sm_ift hc hf
        refine w_blk bX1_prepare_44 [.ref 34, .ref 3, .int (v2 + (1 : Int32))] [] (sm_hp m) [] rfl (sm_on) ?_
        refine w_goto (tgt := 7) dX1_prepare_47 rfl ?_
        exact ih (v2 + (1 : Int32)) m r hf
      · replace hf := sm_iff hc hf
        replace hf := sm_ck hf
        obtain ⟨q8, hf⟩ := hf
        refine w_blk bX1_prepare_24 [.ref 34, .ref 3, .int v2] [] (sm_hp (sm_w1 (sm_w1 m 35 (m.1 34 1).toNatClampNeg v2) 34 1 ((m.1 34 1) + (1 : Int32)))) [((m.1 34 1), 14)] rfl (sm_oc q8 (sm_on)) ?_
        refine w_blk bX1_prepare_44 [.ref 34, .ref 3, .int (v2 + (1 : Int32))] [] (sm_hp (sm_w1 (sm_w1 m 35 (m.1 34 1).toNatClampNeg v2) 34 1 ((m.1 34 1) + (1 : Int32)))) [] rfl (sm_on) ?_
        refine w_goto (tgt := 7) dX1_prepare_47 rfl ?_
        exact ih (v2 + (1 : Int32)) (sm_w1 (sm_w1 m 35 (m.1 34 1).toNatClampNeg v2) 34 1 ((m.1 34 1) + (1 : Int32))) r hf
set_option maxRecDepth 10000 in
theorem tX1_prepare {l : Launch} {al : Bool} (m : sm_S) (r : sm_S) (hf : fX1_prepare m = some r) : sm_Rt l mX1_prepare 3 0 0 al al [.ref 34, .ref 3] (sm_hp m) (none, sm_hp r) := by
  refine sm_Rt.ofW (L := [.ref 34, .ref 3, .retAddr 0]) (by decide) (Nat.le_of_ble_eq_true rfl) rfl ?_
  unfold fX1_prepare at hf
  refine w_blk bX1_prepare_0 [.ref 34, .ref 3, .int (0 : Int32)] [] (sm_hp (sm_w1 m 34 1 (0 : Int32))) [] rfl (sm_on) ?_
  exact tX1_prepare_7 sm_fu (0 : Int32) (sm_w1 m 34 1 (0 : Int32)) r hf
set_option maxRecDepth 10000 in
theorem tX1_partAfter_11 {l : Launch} {al : Bool} : ∀ (n : Nat) (v3 : Int32) (v4 : Int32) (v5 : Int32) (m : sm_S) (r : Int32), fX1_partAfter_11 n v3 v4 v5 m = some r → sm_W l mX1_partAfter 1 al (some (.int r), sm_hp m) 11 [.ref 34, .ref 3, .retAddr 0, .int v3, .int v4, .int v5, .retAddr 0] [] (sm_hp m) := by
  intro n
  induction n with
  | zero =>
    intro v3 v4 v5 m r hf
    unfold fX1_partAfter_11 at hf
    cases hf
  | succ n ih =>
    intro v3 v4 v5 m r hf
    unfold fX1_partAfter_11 at hf
    refine w_blk bX1_partAfter_11 [.ref 34, .ref 3, .retAddr 0, .int v3, .int v4, .int v5, .retAddr 0] [.int (m.1 34 1), .int v5] (sm_hp m) [] rfl (sm_on) ?_
    refine w_icmp_ge (tgt := 74) dX1_partAfter_17 rfl (fun hc => ?_) (fun hc => ?_)
    · replace hf := sm_ift hc hf
      refine w_blk bX1_partAfter_74 [.ref 34, .ref 3, .retAddr 0, .int v3, .int v4, .int v5, .retAddr 0] [.int v4] (sm_hp m) [] rfl (sm_on) ?_
      obtain rfl := Option.some.inj hf
      exact w_reti dX1_partAfter_76 rfl rfl
    · replace hf := sm_iff hc hf
      refine w_blk bX1_partAfter_20 [.ref 34, .ref 3, .retAddr 0, .int v3, .int v4, .int v5, .retAddr 0] [.int ((v3 >>> (v5 &&& 31)) &&& (1 : Int32))] (sm_hp m) [] rfl (sm_on) ?_
      refine w_if_eq (tgt := 68) dX1_partAfter_26 rfl (fun hc => ?_) (fun hc => ?_)
      · replace hf := sm_ift hc hf
        refine w_blk bX1_partAfter_68 [.ref 34, .ref 3, .retAddr 0, .int v3, .int v4, .int (v5 + (1 : Int32)), .retAddr 0] [] (sm_hp m) [] rfl (sm_on) ?_
        refine w_goto (tgt := 11) dX1_partAfter_71 rfl ?_
        exact ih v3 v4 (v5 + (1 : Int32)) m r hf
      · replace hf := sm_iff hc hf
        replace hf := sm_ck hf
        obtain ⟨q2, hf⟩ := hf
        replace hf := sm_ck hf
        obtain ⟨q3, hf⟩ := hf
        replace hf := sm_ck hf
        obtain ⟨q4, hf⟩ := hf
        replace hf := sm_ck hf
        obtain ⟨q5, hf⟩ := hf
        replace hf := sm_ck hf
        obtain ⟨q6, hf⟩ := hf
        refine w_blk bX1_partAfter_29 [.ref 34, .ref 3, .retAddr 0, .int v3, .int (v4 ^^^ ((m.1 36 (m.1 6 (m.1 35 (v5).toNatClampNeg).toNatClampNeg).toNatClampNeg) ^^^ (m.1 36 (m.1 7 (m.1 35 (v5).toNatClampNeg).toNatClampNeg).toNatClampNeg))), .int v5, .int (m.1 35 (v5).toNatClampNeg)] [] (sm_hp m) [(v5, 14), ((m.1 35 (v5).toNatClampNeg), 14), ((m.1 6 (m.1 35 (v5).toNatClampNeg).toNatClampNeg), 10), ((m.1 35 (v5).toNatClampNeg), 14), ((m.1 7 (m.1 35 (v5).toNatClampNeg).toNatClampNeg), 10)] rfl (sm_oc q2 (sm_oc q3 (sm_oc q4 (sm_oc q5 (sm_oc q6 (sm_on)))))) ?_
        refine w_blk bX1_partAfter_68 [.ref 34, .ref 3, .retAddr 0, .int v3, .int (v4 ^^^ ((m.1 36 (m.1 6 (m.1 35 (v5).toNatClampNeg).toNatClampNeg).toNatClampNeg) ^^^ (m.1 36 (m.1 7 (m.1 35 (v5).toNatClampNeg).toNatClampNeg).toNatClampNeg))), .int (v5 + (1 : Int32)), .int (m.1 35 (v5).toNatClampNeg)] [] (sm_hp m) [] rfl (sm_on) ?_
        refine w_goto (tgt := 11) dX1_partAfter_71 rfl ?_
        refine w_wk [true, true, false, true, true, true, false] ?_
        exact ih v3 (v4 ^^^ ((m.1 36 (m.1 6 (m.1 35 (v5).toNatClampNeg).toNatClampNeg).toNatClampNeg) ^^^ (m.1 36 (m.1 7 (m.1 35 (v5).toNatClampNeg).toNatClampNeg).toNatClampNeg))) (v5 + (1 : Int32)) m r hf
set_option maxRecDepth 10000 in
theorem tX1_partAfter {l : Launch} {al : Bool} (x1 : Int32) (x2 : Int32) (m : sm_S) (r : Int32) (hf : fX1_partAfter x1 x2 m = some r) : sm_Rt l mX1_partAfter 1 0 0 al al [.ref 34, .ref 3, .int x1, .int x2] (sm_hp m) (some (.int r), sm_hp m) := by
  refine sm_Rt.ofW (L := [.ref 34, .ref 3, .int x1, .int x2, .retAddr 0, .retAddr 0, .retAddr 0]) (by decide) (Nat.le_of_ble_eq_true rfl) rfl ?_
  unfold fX1_partAfter at hf
  replace hf := sm_ck hf
  obtain ⟨q1, hf⟩ := hf
  refine w_blk bX1_partAfter_0 [.ref 34, .ref 3, .int x1, .int x2, .int (m.1 36 (x1).toNatClampNeg), .int (0 : Int32), .retAddr 0] [] (sm_hp m) [(x1, 10)] rfl (sm_oc q1 (sm_on)) ?_
  refine w_wk [true, true, false, true, true, true, false] ?_
  exact tX1_partAfter_11 sm_fu x2 (m.1 36 (x1).toNatClampNeg) (0 : Int32) m r hf
set_option maxRecDepth 10000 in
theorem tX1_placeOf {l : Launch} {al : Bool} (x1 : Int32) (x2 : Int32) (m : sm_S) (r : Int32) (hf : fX1_placeOf x1 x2 m = some r) : sm_Rt l mX1_placeOf 1 0 0 al al [.ref 34, .int x1, .int x2] (sm_hp m) (some (.int r), sm_hp m) := by
  refine sm_Rt.ofW (L := [.ref 34, .int x1, .int x2]) (by decide) (Nat.le_of_ble_eq_true rfl) rfl ?_
  unfold fX1_placeOf at hf
  replace hf := sm_ck hf
  obtain ⟨q1, hf⟩ := hf
  refine w_blk bX1_placeOf_0 [.ref 34, .int x1, .int x2] [.int ((x1 * (m.1 34 2)) + (m.1 37 (x2).toNatClampNeg))] (sm_hp m) [(x2, 10)] rfl (sm_oc q1 (sm_on)) ?_
  obtain rfl := Option.some.inj hf
  exact w_reti dX1_placeOf_13 rfl rfl
set_option maxRecDepth 10000 in
theorem tX3_at_i2 {l : Launch} {al : Bool} (x1 : Int32) (m : sm_S) (r : Int32) (hf : fX3_at_i2 x1 m = some r) : sm_Rt l mX3_at 1 0 0 al al [.ref 49, .int x1] (sm_hp m) (some (.int r), sm_hp m) := by
  refine sm_Rt.ofW (L := [.ref 49, .int x1]) (by decide) (Nat.le_of_ble_eq_true rfl) rfl ?_
  unfold fX3_at_i2 at hf
  refine w_blk bX3_at_0 [.ref 49, .int x1] [.int x1] (sm_hp m) [] rfl (sm_on) ?_
  refine w_if_lt (tgt := 12) dX3_at_1 rfl (fun hc => ?_) (fun hc => ?_)
  · replace hf := sm_ift hc hf
    refine w_blk bX3_at_12 [.ref 49, .int x1] [.int (65535 : Int32)] (sm_hp m) [] rfl (sm_on) ?_
    obtain rfl := Option.some.inj hf
    exact w_reti dX3_at_14 rfl rfl
  · replace hf := sm_iff hc hf
    refine w_blk bX3_at_4 [.ref 49, .int x1] [.int (m.1 49 0), .int x1] (sm_hp m) [] rfl (sm_on) ?_
    refine w_icmp_lt (tgt := 15) dX3_at_9 rfl (fun hc => ?_) (fun hc => ?_)
    · replace hf := sm_ift hc hf
      replace hf := sm_ck hf
      obtain ⟨q1, hf⟩ := hf
      refine w_blk bX3_at_15 [.ref 49, .int x1] [.int ((((m.2 50 (x1 >>> ((2 : Int32) &&& 31)).toNatClampNeg) >>> ((((x1 &&& (3 : Int32)) <<< ((4 : Int32) &&& 31))).toInt64 &&& 63))).toInt32 &&& (65535 : Int32))] (sm_hp m) [((x1 >>> ((2 : Int32) &&& 31)), 4097)] rfl (sm_oc q1 (sm_on)) ?_
      obtain rfl := Option.some.inj hf
      exact w_reti dX3_at_33 rfl rfl
    · replace hf := sm_iff hc hf
      refine w_blk bX3_at_12 [.ref 49, .int x1] [.int (65535 : Int32)] (sm_hp m) [] rfl (sm_on) ?_
      obtain rfl := Option.some.inj hf
      exact w_reti dX3_at_14 rfl rfl
set_option maxRecDepth 10000 in
theorem tX1_minutesBy {l : Launch} {al : Bool} (x1 : Int32) (x2 : Int32) (x3 : Int32) (x4 : Int32) (m : sm_S) (r : Int32) (hf : fX1_minutesBy x1 x2 x3 x4 m = some r) : sm_Rt l mX1_minutesBy 2 0 0 al al [.ref 34, .ref 3, .int x1, .int x2, .int x3, .int x4] (sm_hp m) (some (.int r), sm_hp m) := by
  refine sm_Rt.ofW (L := [.ref 34, .ref 3, .int x1, .int x2, .int x3, .int x4, .retAddr 0, .retAddr 0]) (by decide) (Nat.le_of_ble_eq_true rfl) rfl ?_
  unfold fX1_minutesBy at hf
  refine w_blk bX1_minutesBy_0 [.ref 34, .ref 3, .int x1, .int x2, .int x3, .int x4, .retAddr 0, .retAddr 0] [.int x2, .ref 38] (sm_hp m) [] rfl (sm_on) ?_
  replace hf := sm_ck hf
  obtain ⟨q1, hf⟩ := hf
  refine w_blk bX1_minutesBy_5 [.ref 34, .ref 3, .int x1, .int x2, .int x3, .int x4, .retAddr 0, .retAddr 0] [.ref (39 + (x2).toNatClampNeg)] (sm_hp m) [(x2, 10)] (sm_run1 (i_aa_row q1)) (sm_oc q1 (sm_on)) ?_
  refine w_blk bX1_minutesBy_6 [.ref 34, .ref 3, .int x1, .int x2, .int x3, .int x4, .retAddr 0, .retAddr 0] [.int x4, .ref (39 + (x2).toNatClampNeg)] (sm_hp m) [] rfl (sm_on) ?_
  replace hf := sm_ck hf
  obtain ⟨q2, hf⟩ := hf
  refine w_blk bX1_minutesBy_8 [.ref 34, .ref 3, .int x1, .int x2, .int x3, .int x4, .retAddr 0, .retAddr 0] [.int (m.1 (39 + (x2).toNatClampNeg) (x4).toNatClampNeg)] (sm_hp m) [(x4, 10)] (sm_run1 (i_ia_row q1)) (sm_oc q2 (sm_on)) ?_
  refine w_blk bX1_minutesBy_9 [.ref 34, .ref 3, .int x1, .int x2, .int x3, .int x4, .retAddr 0, .retAddr 0] [.int (65535 : Int32), .int (m.1 (39 + (x2).toNatClampNeg) (x4).toNatClampNeg)] (sm_hp m) [] rfl (sm_on) ?_
  refine w_icmp_lt (tgt := 17) dX1_minutesBy_11 rfl (fun hc => ?_) (fun hc => ?_)
  · replace hf := sm_ift hc hf
    refine w_blk bX1_minutesBy_17 [.ref 34, .ref 3, .int x1, .int x2, .int x3, .int x4, .retAddr 0, .retAddr 0] [.int x3, .ref 35] (sm_hp m) [] rfl (sm_on) ?_
    replace hf := sm_ck hf
    obtain ⟨q3, hf⟩ := hf
    refine w_blk bX1_minutesBy_23 [.ref 34, .ref 3, .int x1, .int x2, .int x3, .int x4, .retAddr 0, .retAddr 0] [.int (m.1 35 (x3).toNatClampNeg)] (sm_hp m) [(x3, 14)] rfl (sm_oc q3 (sm_on)) ?_
    refine w_blk bX1_minutesBy_24 [.ref 34, .ref 3, .int x1, .int x2, .int x3, .int x4, .int (m.1 35 (x3).toNatClampNeg), .retAddr 0] [.int x4, .int (m.1 35 (x3).toNatClampNeg), .ref 3, .int (x1 ||| ((1 : Int32) <<< (x3 &&& 31))), .ref 34, .ref 49] (sm_hp m) [] rfl (sm_on) ?_
    replace hf := sm_bd hf
    obtain ⟨r5, q4, hf⟩ := hf
    refine w_callV [.int (m.1 35 (x3).toNatClampNeg), .int x4] [.int (x1 ||| ((1 : Int32) <<< (x3 &&& 31))), .ref 34, .ref 49] (tX2_otherEnd (m.1 35 (x3).toNatClampNeg) x4 m r5 q4) (cvX1_107 rfl) dX1_minutesBy_42 rfl rfl (by decide) (by decide) rfl (Nat.le_of_ble_eq_true rfl) ?_
    show sm_W _ _ _ _ _ 45 [.ref 34, .ref 3, .int x1, .int x2, .int x3, .int x4, .int (m.1 35 (x3).toNatClampNeg), .retAddr 0] [.int r5, .int (x1 ||| ((1 : Int32) <<< (x3 &&& 31))), .ref 34, .ref 49] (sm_hp m)
    replace hf := sm_bd hf
    obtain ⟨r7, q6, hf⟩ := hf
    refine w_callV [.int (x1 ||| ((1 : Int32) <<< (x3 &&& 31))), .int r5] [.ref 49] (tX1_placeOf (x1 ||| ((1 : Int32) <<< (x3 &&& 31))) r5 m r7 q6) (cvX1_90 rfl) dX1_minutesBy_45 rfl rfl (by decide) (by decide) rfl (Nat.le_of_ble_eq_true rfl) ?_
    show sm_W _ _ _ _ _ 48 [.ref 34, .ref 3, .int x1, .int x2, .int x3, .int x4, .int (m.1 35 (x3).toNatClampNeg), .retAddr 0] [.int r7, .ref 49] (sm_hp m)
    replace hf := sm_bd hf
    obtain ⟨r9, q8, hf⟩ := hf
    refine w_callV [.int r7] [] (tX3_at_i2 r7 m r9 q8) (cvX1_100 rfl) dX1_minutesBy_48 rfl rfl (by decide) (by decide) rfl (Nat.le_of_ble_eq_true rfl) ?_
    show sm_W _ _ _ _ _ 51 [.ref 34, .ref 3, .int x1, .int x2, .int x3, .int x4, .int (m.1 35 (x3).toNatClampNeg), .retAddr 0] [.int r9] (sm_hp m)
    refine w_blk bX1_minutesBy_51 [.ref 34, .ref 3, .int x1, .int x2, .int x3, .int x4, .int (m.1 35 (x3).toNatClampNeg), .int r9] [.int x2, .ref 38, .int (65535 : Int32)] (sm_hp m) [] rfl (sm_on) ?_
    replace hf := sm_ck hf
    obtain ⟨q10, hf⟩ := hf
    refine w_blk bX1_minutesBy_60 [.ref 34, .ref 3, .int x1, .int x2, .int x3, .int x4, .int (m.1 35 (x3).toNatClampNeg), .int r9] [.ref (39 + (x2).toNatClampNeg), .int (65535 : Int32)] (sm_hp m) [(x2, 10)] (sm_run1 (i_aa_row q10)) (sm_oc q10 (sm_on)) ?_
    refine w_blk bX1_minutesBy_61 [.ref 34, .ref 3, .int x1, .int x2, .int x3, .int x4, .int (m.1 35 (x3).toNatClampNeg), .int r9] [.int x4, .ref (39 + (x2).toNatClampNeg), .int (65535 : Int32)] (sm_hp m) [] rfl (sm_on) ?_
    replace hf := sm_ck hf
    obtain ⟨q11, hf⟩ := hf
    refine w_blk bX1_minutesBy_63 [.ref 34, .ref 3, .int x1, .int x2, .int x3, .int x4, .int (m.1 35 (x3).toNatClampNeg), .int r9] [.int (m.1 (39 + (x2).toNatClampNeg) (x4).toNatClampNeg), .int (65535 : Int32)] (sm_hp m) [(x4, 10)] (sm_run1 (i_ia_row q10)) (sm_oc q11 (sm_on)) ?_
    refine w_blk bX1_minutesBy_64 [.ref 34, .ref 3, .int x1, .int x2, .int x3, .int x4, .int (m.1 35 (x3).toNatClampNeg), .int r9] [.int x4, .int (m.1 35 (x3).toNatClampNeg), .ref 3, .int (m.1 (39 + (x2).toNatClampNeg) (x4).toNatClampNeg), .int (65535 : Int32)] (sm_hp m) [] rfl (sm_on) ?_
    replace hf := sm_bd hf
    obtain ⟨r13, q12, hf⟩ := hf
    refine w_callV [.int (m.1 35 (x3).toNatClampNeg), .int x4] [.int (m.1 (39 + (x2).toNatClampNeg) (x4).toNatClampNeg), .int (65535 : Int32)] (tX2_minutesFrom (m.1 35 (x3).toNatClampNeg) x4 m r13 q12) (cvX1_71 rfl) dX1_minutesBy_69 rfl rfl (by decide) (by decide) rfl (Nat.le_of_ble_eq_true rfl) ?_
    show sm_W _ _ _ _ _ 72 [.ref 34, .ref 3, .int x1, .int x2, .int x3, .int x4, .int (m.1 35 (x3).toNatClampNeg), .int r9] [.int r13, .int (m.1 (39 + (x2).toNatClampNeg) (x4).toNatClampNeg), .int (65535 : Int32)] (sm_hp m)
    refine w_blk bX1_minutesBy_72 [.ref 34, .ref 3, .int x1, .int x2, .int x3, .int x4, .int (m.1 35 (x3).toNatClampNeg), .int r9] [.int (if (((m.1 (39 + (x2).toNatClampNeg) (x4).toNatClampNeg) + r13) + r9) < (65535 : Int32) then (((m.1 (39 + (x2).toNatClampNeg) (x4).toNatClampNeg) + r13) + r9) else (65535 : Int32))] (sm_hp m) [] rfl (sm_on) ?_
    obtain rfl := Option.some.inj hf
    exact w_reti dX1_minutesBy_79 rfl rfl
  · replace hf := sm_iff hc hf
    refine w_blk bX1_minutesBy_14 [.ref 34, .ref 3, .int x1, .int x2, .int x3, .int x4, .retAddr 0, .retAddr 0] [.int (65535 : Int32)] (sm_hp m) [] rfl (sm_on) ?_
    obtain rfl := Option.some.inj hf
    exact w_reti dX1_minutesBy_16 rfl rfl
set_option maxRecDepth 10000 in
theorem tX1_bestOn_7 {l : Launch} {al : Bool} : ∀ (n : Nat) (v2 : Int32) (v3 : Int32) (v4 : Int32) (v5 : Int32) (m : sm_S) (r : Int32), fX1_bestOn_7 n v2 v3 v4 v5 m = some r → sm_W l mX1_bestOn 3 al (some (.int r), sm_hp m) 7 [.ref 34, .ref 3, .int v2, .int v3, .int v4, .int v5, .retAddr 0] [] (sm_hp m) := by
  intro n
  induction n with
  | zero =>
    intro v2 v3 v4 v5 m r hf
    unfold fX1_bestOn_7 at hf
    cases hf
  | succ n ih =>
    intro v2 v3 v4 v5 m r hf
    unfold fX1_bestOn_7 at hf
    refine w_blk bX1_bestOn_7 [.ref 34, .ref 3, .int v2, .int v3, .int v4, .int v5, .retAddr 0] [.int (m.1 34 1), .int v5] (sm_hp m) [] rfl (sm_on) ?_
    refine w_icmp_ge (tgt := 86) dX1_bestOn_13 rfl (fun hc => ?_) (fun hc => ?_)
    · replace hf := sm_ift hc hf
      refine w_blk bX1_bestOn_86 [.ref 34, .ref 3, .int v2, .int v3, .int v4, .int v5, .retAddr 0] [.int v4] (sm_hp m) [] rfl (sm_on) ?_
      obtain rfl := Option.some.inj hf
      exact w_reti dX1_bestOn_88 rfl rfl
    · replace hf := sm_iff hc hf
      refine w_blk bX1_bestOn_16 [.ref 34, .ref 3, .int v2, .int v3, .int v4, .int v5, .retAddr 0] [.int ((v2 >>> (v5 &&& 31)) &&& (1 : Int32))] (sm_hp m) [] rfl (sm_on) ?_
      refine w_if_ne (tgt := 80) dX1_bestOn_22 rfl (fun hc => ?_) (fun hc => ?_)
      · replace hf := sm_iff hc hf
        refine w_blk bX1_bestOn_80 [.ref 34, .ref 3, .int v2, .int v3, .int v4, .int (v5 + (1 : Int32)), .retAddr 0] [] (sm_hp m) [] rfl (sm_on) ?_
        refine w_goto (tgt := 7) dX1_bestOn_83 rfl ?_
        exact ih v2 v3 v4 (v5 + (1 : Int32)) m r hf
      · replace hf := sm_ift hc hf
        replace hf := sm_ck hf
        obtain ⟨q1, hf⟩ := hf
        replace hf := sm_ck hf
        obtain ⟨q2, hf⟩ := hf
        refine w_blk bX1_bestOn_25 [.ref 34, .ref 3, .int v2, .int v3, .int v4, .int v5, .int (m.1 35 (v5).toNatClampNeg)] [.int (m.1 6 (m.1 35 (v5).toNatClampNeg).toNatClampNeg), .int v5, .int v3, .int v2, .ref 3, .ref 34, .int v4] (sm_hp m) [(v5, 14), ((m.1 35 (v5).toNatClampNeg), 14)] rfl (sm_oc q1 (sm_oc q2 (sm_on))) ?_
        replace hf := sm_bd hf
        obtain ⟨r4, q3, hf⟩ := hf
        refine w_callV [.ref 3, .int v2, .int v3, .int v5, .int (m.1 6 (m.1 35 (v5).toNatClampNeg).toNatClampNeg)] [.int v4] (tX1_minutesBy v2 v3 v5 (m.1 6 (m.1 35 (v5).toNatClampNeg).toNatClampNeg) m r4 q3) (cvX1_103 rfl) dX1_bestOn_49 rfl rfl (by decide) (by decide) rfl (Nat.le_of_ble_eq_true rfl) ?_
        show sm_W _ _ _ _ _ 52 [.ref 34, .ref 3, .int v2, .int v3, .int v4, .int v5, .int (m.1 35 (v5).toNatClampNeg)] [.int r4, .int v4] (sm_hp m)
        replace hf := sm_ck hf
        obtain ⟨q5, hf⟩ := hf
        refine w_blk bX1_bestOn_52 [.ref 34, .ref 3, .int v2, .int v3, .int (if r4 < v4 then r4 else v4), .int v5, .int (m.1 35 (v5).toNatClampNeg)] [.int (m.1 7 (m.1 35 (v5).toNatClampNeg).toNatClampNeg), .int v5, .int v3, .int v2, .ref 3, .ref 34, .int (if r4 < v4 then r4 else v4)] (sm_hp m) [((m.1 35 (v5).toNatClampNeg), 14)] rfl (sm_oc q5 (sm_on)) ?_
        replace hf := sm_bd hf
        obtain ⟨r7, q6, hf⟩ := hf
        refine w_callV [.ref 3, .int v2, .int v3, .int v5, .int (m.1 7 (m.1 35 (v5).toNatClampNeg).toNatClampNeg)] [.int (if r4 < v4 then r4 else v4)] (tX1_minutesBy v2 v3 v5 (m.1 7 (m.1 35 (v5).toNatClampNeg).toNatClampNeg) m r7 q6) (cvX1_103 rfl) dX1_bestOn_72 rfl rfl (by decide) (by decide) rfl (Nat.le_of_ble_eq_true rfl) ?_
        show sm_W _ _ _ _ _ 75 [.ref 34, .ref 3, .int v2, .int v3, .int (if r4 < v4 then r4 else v4), .int v5, .int (m.1 35 (v5).toNatClampNeg)] [.int r7, .int (if r4 < v4 then r4 else v4)] (sm_hp m)
        refine w_blk bX1_bestOn_75 [.ref 34, .ref 3, .int v2, .int v3, .int (if r7 < (if r4 < v4 then r4 else v4) then r7 else (if r4 < v4 then r4 else v4)), .int v5, .int (m.1 35 (v5).toNatClampNeg)] [] (sm_hp m) [] rfl (sm_on) ?_
        refine w_blk bX1_bestOn_80 [.ref 34, .ref 3, .int v2, .int v3, .int (if r7 < (if r4 < v4 then r4 else v4) then r7 else (if r4 < v4 then r4 else v4)), .int (v5 + (1 : Int32)), .int (m.1 35 (v5).toNatClampNeg)] [] (sm_hp m) [] rfl (sm_on) ?_
        refine w_goto (tgt := 7) dX1_bestOn_83 rfl ?_
        refine w_wk [true, true, true, true, true, true, false] ?_
        exact ih v2 v3 (if r7 < (if r4 < v4 then r4 else v4) then r7 else (if r4 < v4 then r4 else v4)) (v5 + (1 : Int32)) m r hf
set_option maxRecDepth 10000 in
theorem tX1_bestOn {l : Launch} {al : Bool} (x1 : Int32) (x2 : Int32) (m : sm_S) (r : Int32) (hf : fX1_bestOn x1 x2 m = some r) : sm_Rt l mX1_bestOn 3 0 0 al al [.ref 34, .ref 3, .int x1, .int x2] (sm_hp m) (some (.int r), sm_hp m) := by
  refine sm_Rt.ofW (L := [.ref 34, .ref 3, .int x1, .int x2, .retAddr 0, .retAddr 0, .retAddr 0]) (by decide) (Nat.le_of_ble_eq_true rfl) rfl ?_
  unfold fX1_bestOn at hf
  refine w_blk bX1_bestOn_0 [.ref 34, .ref 3, .int x1, .int x2, .int (65535 : Int32), .int (0 : Int32), .retAddr 0] [] (sm_hp m) [] rfl (sm_on) ?_
  exact tX1_bestOn_7 sm_fu x1 x2 (65535 : Int32) (0 : Int32) m r hf
set_option maxRecDepth 10000 in
theorem tX3_put_i2 {l : Launch} {al : Bool} (x1 : Int32) (x2 : Int32) (m : sm_S) (r : sm_S) (hf : fX3_put_i2 x1 x2 m = some r) : sm_Rt l mX3_put 1 0 0 al al [.ref 49, .int x1, .int x2] (sm_hp m) (none, sm_hp r) := by
  refine sm_Rt.ofW (L := [.ref 49, .int x1, .int x2, .retAddr 0, .retAddr 0, .retAddr 0]) (by decide) (Nat.le_of_ble_eq_true rfl) rfl ?_
  unfold fX3_put_i2 at hf
  refine w_blk bX3_put_0 [.ref 49, .int x1, .int x2, .retAddr 0, .retAddr 0, .retAddr 0] [.int x1] (sm_hp m) [] rfl (sm_on) ?_
  refine w_if_lt (tgt := 58) dX3_put_1 rfl (fun hc => ?_) (fun hc => ?_)
  · replace hf := sm_ift hc hf
    obtain rfl := Option.some.inj hf
    exact w_retv dX3_put_58 rfl
  · replace hf := sm_iff hc hf
    refine w_blk bX3_put_4 [.ref 49, .int x1, .int x2, .retAddr 0, .retAddr 0, .retAddr 0] [.int (m.1 49 0), .int x1] (sm_hp m) [] rfl (sm_on) ?_
    refine w_icmp_ge (tgt := 58) dX3_put_9 rfl (fun hc => ?_) (fun hc => ?_)
    · replace hf := sm_ift hc hf
      obtain rfl := Option.some.inj hf
      exact w_retv dX3_put_58 rfl
    · replace hf := sm_iff hc hf
      replace hf := sm_ck hf
      obtain ⟨q1, hf⟩ := hf
      replace hf := sm_ck hf
      obtain ⟨q2, hf⟩ := hf
      refine w_blk bX3_put_12 [.ref 49, .int x1, .int x2, .int ((x1 &&& (3 : Int32)) <<< ((4 : Int32) &&& 31)), .long ((m.2 50 (x1 >>> ((2 : Int32) &&& 31)).toNatClampNeg) &&& (((65535 : Int64) <<< ((((x1 &&& (3 : Int32)) <<< ((4 : Int32) &&& 31))).toInt64 &&& 63)) ^^^ (-1 : Int64))), .retAddr 0] [] (sm_hp (sm_w2 m 50 (x1 >>> ((2 : Int32) &&& 31)).toNatClampNeg (((m.2 50 (x1 >>> ((2 : Int32) &&& 31)).toNatClampNeg) &&& (((65535 : Int64) <<< ((((x1 &&& (3 : Int32)) <<< ((4 : Int32) &&& 31))).toInt64 &&& 63)) ^^^ (-1 : Int64))) ||| (((if (65535 : Int32) < x2 then (65535 : Int32) else x2)).toInt64 <<< ((((x1 &&& (3 : Int32)) <<< ((4 : Int32) &&& 31))).toInt64 &&& 63))))) [((x1 >>> ((2 : Int32) &&& 31)), 4097), ((x1 >>> ((2 : Int32) &&& 31)), 4097)] rfl (sm_oc q1 (sm_oc q2 (sm_on))) ?_
      obtain rfl := Option.some.inj hf
      exact w_retv dX3_put_58 rfl
