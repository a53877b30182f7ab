set_option maxRecDepth 10000 in
theorem tX12_soon {l : Launch} {al : Bool} (x1 : Int32) (x2 : Int32) (m : sm_S) (r : Int32 × sm_S) (hf : fX12_soon x1 x2 m = some r) : sm_Rt l mX12_soon 3 0 0 al al [.ref 72, .int x1, .int x2] (sm_hp m) (some (.int r.1), sm_hp r.2) := by
  refine sm_Rt.ofW (L := [.ref 72, .int x1, .int x2, .retAddr 0, .retAddr 0, .retAddr 0]) (by decide) (Nat.le_of_ble_eq_true rfl) rfl ?_
  unfold fX12_soon at hf
  refine w_blk bX12_soon_0 [.ref 72, .int x1, .int x2, .retAddr 0, .retAddr 0, .retAddr 0] [.int x1, .ref 72] (sm_hp (sm_w1 m 72 0 (0 : Int32))) [] rfl (sm_on) ?_
  replace hf := sm_bd hf
  obtain ⟨r2, q1, hf⟩ := hf
  refine w_callV [.int x1] [] (tX12_isCorner x1 (sm_w1 m 72 0 (0 : Int32)) r2 q1) (cvX12_157 rfl) dX12_soon_7 rfl rfl (by decide) (by decide) rfl (Nat.le_of_ble_eq_true rfl) ?_
  show sm_W _ _ _ _ _ 10 [.ref 72, .int x1, .int x2, .retAddr 0, .retAddr 0, .retAddr 0] [.int r2] (sm_hp (sm_w1 m 72 0 (0 : Int32)))
  refine w_if_eq (tgt := 25) dX12_soon_10 rfl (fun hc => ?_) (fun hc => ?_)
  · replace hf := sm_ift hc hf
    refine w_blk bX12_soon_25 [.ref 72, .int x1, .int x2, .retAddr 0, .retAddr 0, .retAddr 0] [.int (-1 : Int32)] (sm_hp (sm_w1 m 72 0 (0 : Int32))) [] rfl (sm_on) ?_
    obtain rfl := Option.some.inj hf
    exact w_reti dX12_soon_26 rfl rfl
  · replace hf := sm_iff hc hf
    refine w_blk bX12_soon_13 [.ref 72, .int x1, .int x2, .retAddr 0, .retAddr 0, .retAddr 0] [.long (200 : Int64), .long (0 : Int64), .long (x2).toInt64] (sm_hp (sm_w1 m 72 0 (0 : Int32))) [] rfl (sm_on) ?_
    replace hf := sm_bd hf
    obtain ⟨r4, q3, hf⟩ := hf
    refine w_callS [.long (x2).toInt64, .long (0 : Int64), .long (200 : Int64)] [] (tX12_in (x2).toInt64 (0 : Int64) (200 : Int64) (sm_w1 m 72 0 (0 : Int32)) r4 q3) (csX12_17 rfl) dX12_soon_19 rfl rfl (by decide) (by decide) (Nat.le_of_ble_eq_true rfl) ?_
    show sm_W _ _ _ _ _ 22 [.ref 72, .int x1, .int x2, .retAddr 0, .retAddr 0, .retAddr 0] [.int r4] (sm_hp (sm_w1 m 72 0 (0 : Int32)))
    refine w_if_ne (tgt := 27) dX12_soon_22 rfl (fun hc => ?_) (fun hc => ?_)
    · replace hf := sm_iff hc hf
      refine w_blk bX12_soon_27 [.ref 72, .int x1, .int x2, .retAddr 0, .retAddr 0, .retAddr 0] [.int x1, .ref 72] (sm_hp (sm_w1 m 72 0 (0 : Int32))) [] rfl (sm_on) ?_
      replace hf := sm_bd hf
      obtain ⟨m6, q5, hf⟩ := hf
      refine w_callV [.int x1] [] (tX12_laysOut x1 (sm_w1 m 72 0 (0 : Int32)) m6 q5) (cvX12_327 rfl) dX12_soon_29 rfl rfl (by decide) (by decide) rfl (Nat.le_of_ble_eq_true rfl) ?_
      show sm_W _ _ _ _ _ 32 [.ref 72, .int x1, .int x2, .retAddr 0, .retAddr 0, .retAddr 0] [] (sm_hp m6)
      refine w_blk bX12_soon_32 [.ref 72, .int x1, .int x2, .int (-1 : Int32), .int (1000000 : Int32), .int (0 : Int32)] [] (sm_hp m6) [] rfl (sm_on) ?_
      refine w_wk [true, false, true, true, true, true] ?_
      exact tX12_soon_42 sm_fu x2 (-1 : Int32) (1000000 : Int32) (0 : Int32) m6 r hf
    · replace hf := sm_ift hc hf
      refine w_blk bX12_soon_25 [.ref 72, .int x1, .int x2, .retAddr 0, .retAddr 0, .retAddr 0] [.int (-1 : Int32)] (sm_hp (sm_w1 m 72 0 (0 : Int32))) [] rfl (sm_on) ?_
      obtain rfl := Option.some.inj hf
      exact w_reti dX12_soon_26 rfl rfl
set_option maxRecDepth 10000 in
theorem tX12_bridges_9 {l : Launch} {al : Bool} : ∀ (n : Nat) (v1 : Int32) (v2 : Int32) (m : sm_S) (r : Int32 × sm_S), fX12_bridges_9 n v1 v2 m = some r → sm_W l mX12_bridges 3 al (some (.int r.1), sm_hp r.2) 9 [.ref 72, .int v1, .int v2] [] (sm_hp m) := by
  intro n
  induction n with
  | zero =>
    intro v1 v2 m r hf
    unfold fX12_bridges_9 at hf
    cases hf
  | succ n ih =>
    intro v1 v2 m r hf
    unfold fX12_bridges_9 at hf
    refine w_blk bX12_bridges_9 [.ref 72, .int v1, .int v2] [.int (m.1 72 6), .int v2] (sm_hp m) [] rfl (sm_on) ?_
    refine w_icmp_ge (tgt := 72) dX12_bridges_14 rfl (fun hc => ?_) (fun hc => ?_)
    · replace hf := sm_ift hc hf
      refine w_blk bX12_bridges_72 [.ref 72, .int v1, .int v2] [.int v1] (sm_hp m) [] rfl (sm_on) ?_
      obtain rfl := Option.some.inj hf
      exact w_reti dX12_bridges_73 rfl rfl
    · replace hf := sm_iff hc hf
      refine w_blk bX12_bridges_17 [.ref 72, .int v1, .int v2] [.ref 72, .ref 72] (sm_hp m) [] rfl (sm_on) ?_
      replace hf := sm_bd hf
      obtain ⟨r2, q1, hf⟩ := hf
      refine w_callV [] [.ref 72] (tX12_allHedges m r2 q1) (cvX12_266 rfl) dX12_bridges_19 rfl rfl (by decide) (by decide) rfl (Nat.le_of_ble_eq_true rfl) ?_
      show sm_W _ _ _ _ _ 22 [.ref 72, .int v1, .int v2] [.int r2, .ref 72] (sm_hp m)
      refine w_blk bX12_bridges_22 [.ref 72, .int v1, .int v2] [.int (r2 &&& (((1 : Int32) <<< (v2 &&& 31)) ^^^ (-1 : Int32))), .ref 72] (sm_hp m) [] rfl (sm_on) ?_
      replace hf := sm_bd hf
      obtain ⟨m4, q3, hf⟩ := hf
      refine w_callV [.int (r2 &&& (((1 : Int32) <<< (v2 &&& 31)) ^^^ (-1 : Int32)))] [] (tX12_parts (r2 &&& (((1 : Int32) <<< (v2 &&& 31)) ^^^ (-1 : Int32))) m m4 q3) (cvX12_277 rfl) dX12_bridges_28 rfl rfl (by decide) (by decide) rfl (Nat.le_of_ble_eq_true rfl) ?_
      show sm_W _ _ _ _ _ 31 [.ref 72, .int v1, .int v2] [] (sm_hp m4)
      replace hf := sm_ck hf
      obtain ⟨q5, hf⟩ := hf
      replace hf := sm_ck hf
      obtain ⟨q6, hf⟩ := hf
      replace hf := sm_ck hf
      obtain ⟨q7, hf⟩ := hf
      replace hf := sm_ck hf
      obtain ⟨q8, hf⟩ := hf
      refine w_blk bX12_bridges_31 [.ref 72, .int v1, .int v2] [.int (m4.1 94 (m4.1 77 (v2).toNatClampNeg).toNatClampNeg), .int (m4.1 94 (m4.1 76 (v2).toNatClampNeg).toNatClampNeg), .int v1] (sm_hp m4) [(v2, 14), ((m4.1 76 (v2).toNatClampNeg), 10), (v2, 14), ((m4.1 77 (v2).toNatClampNeg), 10)] rfl (sm_oc q5 (sm_oc q6 (sm_oc q7 (sm_oc q8 (sm_on))))) ?_
      refine w_icmp_eq (tgt := 63) dX12_bridges_54 rfl (fun hc => ?_) (fun hc => ?_)
      · replace hf := sm_ift hc hf
        refine w_blk bX12_bridges_63 [.ref 72, .int v1, .int v2] [.int (0 : Int32), .int v1] (sm_hp m4) [] rfl (sm_on) ?_
        refine w_blk bX12_bridges_64 [.ref 72, .int (v1 ||| (0 : Int32)), .int (v2 + (1 : Int32))] [] (sm_hp m4) [] rfl (sm_on) ?_
        refine w_goto (tgt := 9) dX12_bridges_69 rfl ?_
        exact ih (v1 ||| (0 : Int32)) (v2 + (1 : Int32)) m4 r hf
      · replace hf := sm_iff hc hf
        refine w_blk bX12_bridges_57 [.ref 72, .int v1, .int v2] [.int ((1 : Int32) <<< (v2 &&& 31)), .int v1] (sm_hp m4) [] rfl (sm_on) ?_
        refine w_goto (tgt := 64) dX12_bridges_60 rfl ?_
        refine w_blk bX12_bridges_64 [.ref 72, .int (v1 ||| ((1 : Int32) <<< (v2 &&& 31))), .int (v2 + (1 : Int32))] [] (sm_hp m4) [] rfl (sm_on) ?_
        refine w_goto (tgt := 9) dX12_bridges_69 rfl ?_
        exact ih (v1 ||| ((1 : Int32) <<< (v2 &&& 31))) (v2 + (1 : Int32)) m4 r hf
set_option maxRecDepth 10000 in
theorem tX12_bridges {l : Launch} {al : Bool} (m : sm_S) (r : Int32 × sm_S) (hf : fX12_bridges m = some r) : sm_Rt l mX12_bridges 3 0 0 al al [.ref 72] (sm_hp m) (some (.int r.1), sm_hp r.2) := by
  refine sm_Rt.ofW (L := [.ref 72, .retAddr 0, .retAddr 0]) (by decide) (Nat.le_of_ble_eq_true rfl) rfl ?_
  unfold fX12_bridges at hf
  refine w_blk bX12_bridges_0 [.ref 72, .int (0 : Int32), .int (0 : Int32)] [] (sm_hp (sm_w1 m 72 0 (0 : Int32))) [] rfl (sm_on) ?_
  exact tX12_bridges_9 sm_fu (0 : Int32) (0 : Int32) (sm_w1 m 72 0 (0 : Int32)) r hf
set_option maxRecDepth 10000 in
theorem tX12_reach_90 {l : Launch} {al : Bool} : ∀ (n : Nat) (v3 : Int32) (v4 : Int32) (m : sm_S) (r : Int32 × sm_S), fX12_reach_90 n v3 v4 m = some r → sm_W l mX12_reach 3 al (some (.int r.1), sm_hp r.2) 90 [.ref 72, .retAddr 0, .retAddr 0, .int v3, .int v4] [] (sm_hp m) := by
  intro n
  induction n with
  | zero =>
    intro v3 v4 m r hf
    unfold fX12_reach_90 at hf
    cases hf
  | succ n ih =>
    intro v3 v4 m r hf
    unfold fX12_reach_90 at hf
    refine w_blk bX12_reach_90 [.ref 72, .retAddr 0, .retAddr 0, .int v3, .int v4] [.int (m.1 72 3), .int v4] (sm_hp m) [] rfl (sm_on) ?_
    refine w_icmp_ge (tgt := 135) dX12_reach_96 rfl (fun hc => ?_) (fun hc => ?_)
    · replace hf := sm_ift hc hf
      refine w_blk bX12_reach_135 [.ref 72, .retAddr 0, .retAddr 0, .int v3, .int v4] [.int v3] (sm_hp m) [] rfl (sm_on) ?_
      obtain rfl := Option.some.inj hf
      exact w_reti dX12_reach_136 rfl rfl
    · replace hf := sm_iff hc hf
      replace hf := sm_ck hf
      obtain ⟨q7, hf⟩ := hf
      replace hf := sm_ck hf
      obtain ⟨q8, hf⟩ := hf
      refine w_blk bX12_reach_99 [.ref 72, .retAddr 0, .retAddr 0, .int v3, .int v4] [.int (m.1 94 (m.1 72 17).toNatClampNeg), .int (m.1 94 (v4).toNatClampNeg), .int v3] (sm_hp m) [(v4, 10), ((m.1 72 17), 10)] rfl (sm_oc q7 (sm_oc q8 (sm_on))) ?_
      refine w_icmp_ne (tgt := 126) dX12_reach_116 rfl (fun hc => ?_) (fun hc => ?_)
      · replace hf := sm_iff hc hf
        refine w_blk bX12_reach_126 [.ref 72, .retAddr 0, .retAddr 0, .int v3, .int v4] [.int (0 : Int32), .int v3] (sm_hp m) [] rfl (sm_on) ?_
        refine w_blk bX12_reach_127 [.ref 72, .retAddr 0, .retAddr 0, .int (v3 ||| (0 : Int32)), .int (v4 + (1 : Int32))] [] (sm_hp m) [] rfl (sm_on) ?_
        refine w_goto (tgt := 90) dX12_reach_132 rfl ?_
        exact ih (v3 ||| (0 : Int32)) (v4 + (1 : Int32)) m r hf
      · replace hf := sm_ift hc hf
        refine w_blk bX12_reach_119 [.ref 72, .retAddr 0, .retAddr 0, .int v3, .int v4] [.int ((1 : Int32) <<< (v4 &&& 31)), .int v3] (sm_hp m) [] rfl (sm_on) ?_
        refine w_goto (tgt := 127) dX12_reach_123 rfl ?_
        refine w_blk bX12_reach_127 [.ref 72, .retAddr 0, .retAddr 0, .int (v3 ||| ((1 : Int32) <<< (v4 &&& 31))), .int (v4 + (1 : Int32))] [] (sm_hp m) [] rfl (sm_on) ?_
        refine w_goto (tgt := 90) dX12_reach_132 rfl ?_
        exact ih (v3 ||| ((1 : Int32) <<< (v4 &&& 31))) (v4 + (1 : Int32)) m r hf
set_option maxRecDepth 10000 in
theorem tX12_reach_39 {l : Launch} {al : Bool} : ∀ (n : Nat) (v1 : Int32) (v2 : Int32) (v3 : Int32) (m : sm_S) (r : Int32 × sm_S), fX12_reach_39 n v1 v2 v3 m = some r → sm_W l mX12_reach 3 al (some (.int r.1), sm_hp r.2) 39 [.ref 72, .int v1, .int v2, .int v3, .retAddr 0] [] (sm_hp m) := by
  intro n
  induction n with
  | zero =>
    intro v1 v2 v3 m r hf
    unfold fX12_reach_39 at hf
    cases hf
  | succ n ih =>
    intro v1 v2 v3 m r hf
    unfold fX12_reach_39 at hf
    refine w_blk bX12_reach_39 [.ref 72, .int v1, .int v2, .int v3, .retAddr 0] [.int (m.1 72 6), .int v3] (sm_hp m) [] rfl (sm_on) ?_
    refine w_icmp_ge (tgt := 80) dX12_reach_44 rfl (fun hc => ?_) (fun hc => ?_)
    · replace hf := sm_ift hc hf
      refine w_blk bX12_reach_80 [.ref 72, .int v1, .int v2, .int v3, .retAddr 0] [.int v2, .ref 72] (sm_hp m) [] rfl (sm_on) ?_
      replace hf := sm_bd hf
      obtain ⟨m6, q5, hf⟩ := hf
      refine w_callV [.int v2] [] (tX12_parts v2 m m6 q5) (cvX12_277 rfl) dX12_reach_82 rfl rfl (by decide) (by decide) rfl (Nat.le_of_ble_eq_true rfl) ?_
      show sm_W _ _ _ _ _ 85 [.ref 72, .int v1, .int v2, .int v3, .retAddr 0] [] (sm_hp m6)
      refine w_blk bX12_reach_85 [.ref 72, .int v1, .int v2, .int (0 : Int32), .int (0 : Int32)] [] (sm_hp m6) [] rfl (sm_on) ?_
      refine w_wk [true, false, false, true, true] ?_
      exact tX12_reach_90 sm_fu (0 : Int32) (0 : Int32) m6 r hf
    · replace hf := sm_iff hc hf
      refine w_blk bX12_reach_47 [.ref 72, .int v1, .int v2, .int v3, .retAddr 0] [.int v1, .int v3, .int v2] (sm_hp m) [] rfl (sm_on) ?_
      refine w_icmp_eq (tgt := 71) dX12_reach_50 rfl (fun hc => ?_) (fun hc => ?_)
      · replace hf := sm_ift hc hf
        refine w_blk bX12_reach_71 [.ref 72, .int v1, .int v2, .int v3, .retAddr 0] [.int (0 : Int32), .int v2] (sm_hp m) [] rfl (sm_on) ?_
        refine w_blk bX12_reach_72 [.ref 72, .int v1, .int (v2 ||| (0 : Int32)), .int (v3 + (1 : Int32)), .retAddr 0] [] (sm_hp m) [] rfl (sm_on) ?_
        refine w_goto (tgt := 39) dX12_reach_77 rfl ?_
        exact ih v1 (v2 ||| (0 : Int32)) (v3 + (1 : Int32)) m r hf
      · replace hf := sm_iff hc hf
        refine w_blk bX12_reach_53 [.ref 72, .int v1, .int v2, .int v3, .retAddr 0] [.int (m.1 72 18), .int v3, .ref 72, .int v2] (sm_hp m) [] rfl (sm_on) ?_
        replace hf := sm_bd hf
        obtain ⟨r10, q9, hf⟩ := hf
        refine w_callV [.int v3, .int (m.1 72 18)] [.int v2] (tX12_isFresh v3 (m.1 72 18) m r10 q9) (cvX12_151 rfl) dX12_reach_59 rfl rfl (by decide) (by decide) rfl (Nat.le_of_ble_eq_true rfl) ?_
        show sm_W _ _ _ _ _ 62 [.ref 72, .int v1, .int v2, .int v3, .retAddr 0] [.int r10, .int v2] (sm_hp m)
        refine w_if_eq (tgt := 71) dX12_reach_62 rfl (fun hc => ?_) (fun hc => ?_)
        · replace hf := sm_ift hc hf
          refine w_blk bX12_reach_71 [.ref 72, .int v1, .int v2, .int v3, .retAddr 0] [.int (0 : Int32), .int v2] (sm_hp m) [] rfl (sm_on) ?_
          refine w_blk bX12_reach_72 [.ref 72, .int v1, .int (v2 ||| (0 : Int32)), .int (v3 + (1 : Int32)), .retAddr 0] [] (sm_hp m) [] rfl (sm_on) ?_
          refine w_goto (tgt := 39) dX12_reach_77 rfl ?_
          exact ih v1 (v2 ||| (0 : Int32)) (v3 + (1 : Int32)) m r hf
        · replace hf := sm_iff hc hf
          refine w_blk bX12_reach_65 [.ref 72, .int v1, .int v2, .int v3, .retAddr 0] [.int ((1 : Int32) <<< (v3 &&& 31)), .int v2] (sm_hp m) [] rfl (sm_on) ?_
          refine w_goto (tgt := 72) dX12_reach_68 rfl ?_
          refine w_blk bX12_reach_72 [.ref 72, .int v1, .int (v2 ||| ((1 : Int32) <<< (v3 &&& 31))), .int (v3 + (1 : Int32)), .retAddr 0] [] (sm_hp m) [] rfl (sm_on) ?_
          refine w_goto (tgt := 39) dX12_reach_77 rfl ?_
          exact ih v1 (v2 ||| ((1 : Int32) <<< (v3 &&& 31))) (v3 + (1 : Int32)) m r hf
set_option maxRecDepth 10000 in
theorem tX12_reach {l : Launch} {al : Bool} (x1 : Int32) (m : sm_S) (r : Int32 × sm_S) (hf : fX12_reach x1 m = some r) : sm_Rt l mX12_reach 3 0 0 al al [.ref 72, .int x1] (sm_hp m) (some (.int r.1), sm_hp r.2) := by
  refine sm_Rt.ofW (L := [.ref 72, .int x1, .retAddr 0, .retAddr 0, .retAddr 0]) (by decide) (Nat.le_of_ble_eq_true rfl) rfl ?_
  unfold fX12_reach at hf
  refine w_blk bX12_reach_0 [.ref 72, .int x1, .retAddr 0, .retAddr 0, .retAddr 0] [.int (m.1 72 3)] (sm_hp (sm_w1 m 72 0 (0 : Int32))) [] rfl (sm_on) ?_
  refine w_if_eq (tgt := 30) dX12_reach_9 rfl (fun hc => ?_) (fun hc => ?_)
  · replace hf := sm_ift hc hf
    refine w_blk bX12_reach_30 [.ref 72, .int x1, .retAddr 0, .retAddr 0, .retAddr 0] [.ref 72] (sm_hp (sm_w1 m 72 0 (0 : Int32))) [] rfl (sm_on) ?_
    replace hf := sm_bd hf
    obtain ⟨r2, q1, hf⟩ := hf
    refine w_callV [] [] (tX12_refuse (sm_w1 m 72 0 (0 : Int32)) r2 q1) (cvX12_140 rfl) dX12_reach_31 rfl rfl (by decide) (by decide) rfl (Nat.le_of_ble_eq_true rfl) ?_
    show sm_W _ _ _ _ _ 34 [.ref 72, .int x1, .retAddr 0, .retAddr 0, .retAddr 0] [.int r2.1] (sm_hp r2.2)
    obtain rfl := Option.some.inj hf
    exact w_reti dX12_reach_34 rfl rfl
  · replace hf := sm_iff hc hf
    refine w_blk bX12_reach_12 [.ref 72, .int x1, .retAddr 0, .retAddr 0, .retAddr 0] [.long (((m.1 72 6) - (1 : Int32))).toInt64, .long (-1 : Int64), .long (x1).toInt64] (sm_hp (sm_w1 m 72 0 (0 : Int32))) [] rfl (sm_on) ?_
    replace hf := sm_bd hf
    obtain ⟨r4, q3, hf⟩ := hf
    refine w_callS [.long (x1).toInt64, .long (-1 : Int64), .long (((m.1 72 6) - (1 : Int32))).toInt64] [] (tX12_in (x1).toInt64 (-1 : Int64) (((m.1 72 6) - (1 : Int32))).toInt64 (sm_w1 m 72 0 (0 : Int32)) r4 q3) (csX12_17 rfl) dX12_reach_24 rfl rfl (by decide) (by decide) (Nat.le_of_ble_eq_true rfl) ?_
    show sm_W _ _ _ _ _ 27 [.ref 72, .int x1, .retAddr 0, .retAddr 0, .retAddr 0] [.int r4] (sm_hp (sm_w1 m 72 0 (0 : Int32)))
    refine w_if_ne (tgt := 35) dX12_reach_27 rfl (fun hc => ?_) (fun hc => ?_)
    · replace hf := sm_iff hc hf
      refine w_blk bX12_reach_35 [.ref 72, .int x1, .int (0 : Int32), .int (0 : Int32), .retAddr 0] [] (sm_hp (sm_w1 m 72 0 (0 : Int32))) [] rfl (sm_on) ?_
      exact tX12_reach_39 sm_fu x1 (0 : Int32) (0 : Int32) (sm_w1 m 72 0 (0 : Int32)) r hf
    · replace hf := sm_ift hc hf
      refine w_blk bX12_reach_30 [.ref 72, .int x1, .retAddr 0, .retAddr 0, .retAddr 0] [.ref 72] (sm_hp (sm_w1 m 72 0 (0 : Int32))) [] rfl (sm_on) ?_
      replace hf := sm_bd hf
      obtain ⟨r12, q11, hf⟩ := hf
      refine w_callV [] [] (tX12_refuse (sm_w1 m 72 0 (0 : Int32)) r12 q11) (cvX12_140 rfl) dX12_reach_31 rfl rfl (by decide) (by decide) rfl (Nat.le_of_ble_eq_true rfl) ?_
      show sm_W _ _ _ _ _ 34 [.ref 72, .int x1, .retAddr 0, .retAddr 0, .retAddr 0] [.int r12.1] (sm_hp r12.2)
      obtain rfl := Option.some.inj hf
      exact w_reti dX12_reach_34 rfl rfl
set_option maxRecDepth 10000 in
theorem tX12_shortens {l : Launch} {al : Bool} (x1 : Int32) (x2 : Int32) (x3 : Int32) (m : sm_S) (r : sm_S) (hf : fX12_shortens x1 x2 x3 m = some r) : sm_Rt l mX12_shortens 1 0 0 al al [.ref 72, .int x1, .int x2, .int x3] (sm_hp m) (none, sm_hp r) := by
  refine sm_Rt.ofW (L := [.ref 72, .int x1, .int x2, .int x3]) (by decide) (Nat.le_of_ble_eq_true rfl) rfl ?_
  unfold fX12_shortens at hf
  replace hf := sm_ck hf
  obtain ⟨q1, hf⟩ := hf
  replace hf := sm_ck hf
  obtain ⟨q2, hf⟩ := hf
  refine w_blk bX12_shortens_0 [.ref 72, .int x1, .int x2, .int x3] [] (sm_hp (sm_w1 m 99 (((10 : Int32) * x1) + x2).toNatClampNeg (if x3 < (m.1 99 (((10 : Int32) * x1) + x2).toNatClampNeg) then x3 else (m.1 99 (((10 : Int32) * x1) + x2).toNatClampNeg)))) [((((10 : Int32) * x1) + x2), 100), ((((10 : Int32) * x1) + x2), 100)] rfl (sm_oc q1 (sm_oc q2 (sm_on))) ?_
  obtain rfl := Option.some.inj hf
  exact w_retv dX12_shortens_26 rfl
set_option maxRecDepth 10000 in
theorem tX12_measures_158 {l : Launch} {al : Bool} (k148 : Int32 → Int32 → sm_S → Option (sm_S)) (k138 : Int32 → sm_S → Option (sm_S)) (hk148 : ∀ (v1 : Int32) (v2 : Int32) (m : sm_S) (r : sm_S), k148 v1 v2 m = some r → sm_W l mX12_measures 2 al (none, sm_hp r) 148 [.ref 72, .int v1, .int v2, .retAddr 0] [] (sm_hp m)) (hk138 : ∀ (v1 : Int32) (m : sm_S) (r : sm_S), k138 v1 m = some r → sm_W l mX12_measures 2 al (none, sm_hp r) 138 [.ref 72, .int v1, .retAddr 0, .retAddr 0] [] (sm_hp m)) : ∀ (n : Nat) (v1 : Int32) (v2 : Int32) (v3 : Int32) (m : sm_S) (r : sm_S), fX12_measures_158 k148 k138 n v1 v2 v3 m = some r → sm_W l mX12_measures 2 al (none, sm_hp r) 158 [.ref 72, .int v1, .int v2, .int v3] [] (sm_hp m) := by
  intro n
  induction n with
  | zero =>
    intro v1 v2 v3 m r hf
    unfold fX12_measures_158 at hf
    cases hf
  | succ n ih =>
    intro v1 v2 v3 m r hf
    unfold fX12_measures_158 at hf
    refine w_blk bX12_measures_158 [.ref 72, .int v1, .int v2, .int v3] [.int (m.1 72 3), .int v3] (sm_hp m) [] rfl (sm_on) ?_
    refine w_icmp_ge (tgt := 201) dX12_measures_163 rfl (fun hc => ?_) (fun hc => ?_)
    · replace hf := sm_ift hc hf
      refine w_blk bX12_measures_201 [.ref 72, .int v1, .int (v2 + (1 : Int32)), .int v3] [] (sm_hp m) [] rfl (sm_on) ?_
      refine w_goto (tgt := 148) dX12_measures_204 rfl ?_
      refine w_wk [true, true, true, false] ?_
      exact hk148 v1 (v2 + (1 : Int32)) m r hf
    · replace hf := sm_iff hc hf
      replace hf := sm_ck hf
      obtain ⟨q1, hf⟩ := hf
      replace hf := sm_ck hf
      obtain ⟨q2, hf⟩ := hf
      refine w_blk bX12_measures_166 [.ref 72, .int v1, .int v2, .int v3] [.int ((m.1 99 (((10 : Int32) * v2) + v1).toNatClampNeg) + (m.1 99 (((10 : Int32) * v1) + v3).toNatClampNeg)), .int v3, .int v2, .ref 72] (sm_hp m) [((((10 : Int32) * v2) + v1), 100), ((((10 : Int32) * v1) + v3), 100)] rfl (sm_oc q1 (sm_oc q2 (sm_on))) ?_
      replace hf := sm_bd hf
      obtain ⟨m4, q3, hf⟩ := hf
      refine w_callV [.int v2, .int v3, .int ((m.1 99 (((10 : Int32) * v2) + v1).toNatClampNeg) + (m.1 99 (((10 : Int32) * v1) + v3).toNatClampNeg))] [] (tX12_shortens v2 v3 ((m.1 99 (((10 : Int32) * v2) + v1).toNatClampNeg) + (m.1 99 (((10 : Int32) * v1) + v3).toNatClampNeg)) m m4 q3) (cvX12_346 rfl) dX12_measures_192 rfl rfl (by decide) (by decide) rfl (Nat.le_of_ble_eq_true rfl) ?_
      show sm_W _ _ _ _ _ 195 [.ref 72, .int v1, .int v2, .int v3] [] (sm_hp m4)
      refine w_blk bX12_measures_195 [.ref 72, .int v1, .int v2, .int (v3 + (1 : Int32))] [] (sm_hp m4) [] rfl (sm_on) ?_
      refine w_goto (tgt := 158) dX12_measures_198 rfl ?_
      exact ih v1 v2 (v3 + (1 : Int32)) m4 r hf
set_option maxRecDepth 10000 in
theorem tX12_measures_148 {l : Launch} {al : Bool} (k138 : Int32 → sm_S → Option (sm_S)) (hk138 : ∀ (v1 : Int32) (m : sm_S) (r : sm_S), k138 v1 m = some r → sm_W l mX12_measures 2 al (none, sm_hp r) 138 [.ref 72, .int v1, .retAddr 0, .retAddr 0] [] (sm_hp m)) : ∀ (n : Nat) (v1 : Int32) (v2 : Int32) (m : sm_S) (r : sm_S), fX12_measures_148 k138 n v1 v2 m = some r → sm_W l mX12_measures 2 al (none, sm_hp r) 148 [.ref 72, .int v1, .int v2, .retAddr 0] [] (sm_hp m) := by
  intro n
  induction n with
  | zero =>
    intro v1 v2 m r hf
    unfold fX12_measures_148 at hf
    cases hf
  | succ n ih =>
    intro v1 v2 m r hf
    unfold fX12_measures_148 at hf
    refine w_blk bX12_measures_148 [.ref 72, .int v1, .int v2, .retAddr 0] [.int (m.1 72 3), .int v2] (sm_hp m) [] rfl (sm_on) ?_
    refine w_icmp_ge (tgt := 207) dX12_measures_153 rfl (fun hc => ?_) (fun hc => ?_)
    · replace hf := sm_ift hc hf
      refine w_blk bX12_measures_207 [.ref 72, .int (v1 + (1 : Int32)), .int v2, .retAddr 0] [] (sm_hp m) [] rfl (sm_on) ?_
      refine w_goto (tgt := 138) dX12_measures_210 rfl ?_
      refine w_wk [true, true, false, false] ?_
      exact hk138 (v1 + (1 : Int32)) m r hf
    · replace hf := sm_iff hc hf
      refine w_blk bX12_measures_156 [.ref 72, .int v1, .int v2, .int (0 : Int32)] [] (sm_hp m) [] rfl (sm_on) ?_
      exact tX12_measures_158 (fX12_measures_148 k138 n) k138 ih hk138 sm_fu v1 v2 (0 : Int32) m r hf
set_option maxRecDepth 10000 in
theorem tX12_measures_138 {l : Launch} {al : Bool} : ∀ (n : Nat) (v1 : Int32) (m : sm_S) (r : sm_S), fX12_measures_138 n v1 m = some r → sm_W l mX12_measures 2 al (none, sm_hp r) 138 [.ref 72, .int v1, .retAddr 0, .retAddr 0] [] (sm_hp m) := by
  intro n
  induction n with
  | zero =>
    intro v1 m r hf
    unfold fX12_measures_138 at hf
    cases hf
  | succ n ih =>
    intro v1 m r hf
    unfold fX12_measures_138 at hf
    refine w_blk bX12_measures_138 [.ref 72, .int v1, .retAddr 0, .retAddr 0] [.int (m.1 72 3), .int v1] (sm_hp m) [] rfl (sm_on) ?_
    refine w_icmp_ge (tgt := 213) dX12_measures_143 rfl (fun hc => ?_) (fun hc => ?_)
    · replace hf := sm_ift hc hf
      obtain rfl := Option.some.inj hf
      exact w_retv dX12_measures_213 rfl
    · replace hf := sm_iff hc hf
      refine w_blk bX12_measures_146 [.ref 72, .int v1, .int (0 : Int32), .retAddr 0] [] (sm_hp m) [] rfl (sm_on) ?_
      exact tX12_measures_148 (fX12_measures_138 n) ih sm_fu v1 (0 : Int32) m r hf
set_option maxRecDepth 10000 in
theorem tX12_measures_57 {l : Launch} {al : Bool} : ∀ (n : Nat) (v1 : Int32) (m : sm_S) (r : sm_S), fX12_measures_57 n v1 m = some r → sm_W l mX12_measures 2 al (none, sm_hp r) 57 [.ref 72, .int v1, .retAddr 0, .retAddr 0] [] (sm_hp m) := by
  intro n
  induction n with
  | zero =>
    intro v1 m r hf
    unfold fX12_measures_57 at hf
    cases hf
  | succ n ih =>
    intro v1 m r hf
    unfold fX12_measures_57 at hf
    refine w_blk bX12_measures_57 [.ref 72, .int v1, .retAddr 0, .retAddr 0] [.int (m.1 72 6), .int v1] (sm_hp m) [] rfl (sm_on) ?_
    refine w_icmp_ge (tgt := 136) dX12_measures_62 rfl (fun hc => ?_) (fun hc => ?_)
    · replace hf := sm_ift hc hf
      refine w_blk bX12_measures_136 [.ref 72, .int (0 : Int32), .retAddr 0, .retAddr 0] [] (sm_hp m) [] rfl (sm_on) ?_
      exact tX12_measures_138 sm_fu (0 : Int32) m r hf
    · replace hf := sm_iff hc hf
      refine w_blk bX12_measures_65 [.ref 72, .int v1, .retAddr 0, .retAddr 0] [.int v1, .int (m.1 72 14)] (sm_hp m) [] rfl (sm_on) ?_
      replace hf := sm_bd hf
      obtain ⟨r6, q5, hf⟩ := hf
      refine w_callS [.int (m.1 72 14), .int v1] [] (tX12_has (m.1 72 14) v1 m r6 q5) (csX12_144 rfl) dX12_measures_70 rfl rfl (by decide) (by decide) (Nat.le_of_ble_eq_true rfl) ?_
      show sm_W _ _ _ _ _ 73 [.ref 72, .int v1, .retAddr 0, .retAddr 0] [.int r6] (sm_hp m)
      refine w_if_ne (tgt := 130) dX12_measures_73 rfl (fun hc => ?_) (fun hc => ?_)
      · replace hf := sm_iff hc hf
        refine w_blk bX12_measures_130 [.ref 72, .int (v1 + (1 : Int32)), .retAddr 0, .retAddr 0] [] (sm_hp m) [] rfl (sm_on) ?_
        refine w_goto (tgt := 57) dX12_measures_133 rfl ?_
        exact ih (v1 + (1 : Int32)) m r hf
      · replace hf := sm_ift hc hf
        replace hf := sm_ck hf
        obtain ⟨q7, hf⟩ := hf
        replace hf := sm_ck hf
        obtain ⟨q8, hf⟩ := hf
        replace hf := sm_ck hf
        obtain ⟨q9, hf⟩ := hf
        refine w_blk bX12_measures_76 [.ref 72, .int v1, .retAddr 0, .retAddr 0] [.int (m.1 76 (v1).toNatClampNeg), .int v1, .ref 72, .int (m.1 77 (v1).toNatClampNeg), .int (m.1 76 (v1).toNatClampNeg), .ref 72] (sm_hp m) [(v1, 14), (v1, 14), (v1, 14)] rfl (sm_oc q7 (sm_oc q8 (sm_oc q9 (sm_on)))) ?_
        replace hf := sm_bd hf
        obtain ⟨r11, q10, hf⟩ := hf
        refine w_callV [.int v1, .int (m.1 76 (v1).toNatClampNeg)] [.int (m.1 77 (v1).toNatClampNeg), .int (m.1 76 (v1).toNatClampNeg), .ref 72] (tX12_minutesFrom v1 (m.1 76 (v1).toNatClampNeg) m r11 q10) (cvX12_186 rfl) dX12_measures_97 rfl rfl (by decide) (by decide) rfl (Nat.le_of_ble_eq_true rfl) ?_
        show sm_W _ _ _ _ _ 100 [.ref 72, .int v1, .retAddr 0, .retAddr 0] [.int r11, .int (m.1 77 (v1).toNatClampNeg), .int (m.1 76 (v1).toNatClampNeg), .ref 72] (sm_hp m)
        replace hf := sm_bd hf
        obtain ⟨m13, q12, hf⟩ := hf
        refine w_callV [.int (m.1 76 (v1).toNatClampNeg), .int (m.1 77 (v1).toNatClampNeg), .int r11] [] (tX12_shortens (m.1 76 (v1).toNatClampNeg) (m.1 77 (v1).toNatClampNeg) r11 m m13 q12) (cvX12_346 rfl) dX12_measures_100 rfl rfl (by decide) (by decide) rfl (Nat.le_of_ble_eq_true rfl) ?_
        show sm_W _ _ _ _ _ 103 [.ref 72, .int v1, .retAddr 0, .retAddr 0] [] (sm_hp m13)
        replace hf := sm_ck hf
        obtain ⟨q14, hf⟩ := hf
        replace hf := sm_ck hf
        obtain ⟨q15, hf⟩ := hf
        replace hf := sm_ck hf
        obtain ⟨q16, hf⟩ := hf
        refine w_blk bX12_measures_103 [.ref 72, .int v1, .retAddr 0, .retAddr 0] [.int (m13.1 77 (v1).toNatClampNeg), .int v1, .ref 72, .int (m13.1 76 (v1).toNatClampNeg), .int (m13.1 77 (v1).toNatClampNeg), .ref 72] (sm_hp m13) [(v1, 14), (v1, 14), (v1, 14)] rfl (sm_oc q14 (sm_oc q15 (sm_oc q16 (sm_on)))) ?_
        replace hf := sm_bd hf
        obtain ⟨r18, q17, hf⟩ := hf
        refine w_callV [.int v1, .int (m13.1 77 (v1).toNatClampNeg)] [.int (m13.1 76 (v1).toNatClampNeg), .int (m13.1 77 (v1).toNatClampNeg), .ref 72] (tX12_minutesFrom v1 (m13.1 77 (v1).toNatClampNeg) m13 r18 q17) (cvX12_186 rfl) dX12_measures_124 rfl rfl (by decide) (by decide) rfl (Nat.le_of_ble_eq_true rfl) ?_
        show sm_W _ _ _ _ _ 127 [.ref 72, .int v1, .retAddr 0, .retAddr 0] [.int r18, .int (m13.1 76 (v1).toNatClampNeg), .int (m13.1 77 (v1).toNatClampNeg), .ref 72] (sm_hp m13)
        replace hf := sm_bd hf
        obtain ⟨m20, q19, hf⟩ := hf
        refine w_callV [.int (m13.1 77 (v1).toNatClampNeg), .int (m13.1 76 (v1).toNatClampNeg), .int r18] [] (tX12_shortens (m13.1 77 (v1).toNatClampNeg) (m13.1 76 (v1).toNatClampNeg) r18 m13 m20 q19) (cvX12_346 rfl) dX12_measures_127 rfl rfl (by decide) (by decide) rfl (Nat.le_of_ble_eq_true rfl) ?_
        show sm_W _ _ _ _ _ 130 [.ref 72, .int v1, .retAddr 0, .retAddr 0] [] (sm_hp m20)
        refine w_blk bX12_measures_130 [.ref 72, .int (v1 + (1 : Int32)), .retAddr 0, .retAddr 0] [] (sm_hp m20) [] rfl (sm_on) ?_
        refine w_goto (tgt := 57) dX12_measures_133 rfl ?_
        exact ih (v1 + (1 : Int32)) m20 r hf
set_option maxRecDepth 10000 in
theorem tX12_measures_12 {l : Launch} {al : Bool} (k2 : Int32 → sm_S → Option (sm_S)) (hk2 : ∀ (v1 : Int32) (m : sm_S) (r : sm_S), k2 v1 m = some r → sm_W l mX12_measures 2 al (none, sm_hp r) 2 [.ref 72, .int v1, .retAddr 0, .retAddr 0] [] (sm_hp m)) : ∀ (n : Nat) (v1 : Int32) (v2 : Int32) (m : sm_S) (r : sm_S), fX12_measures_12 k2 n v1 v2 m = some r → sm_W l mX12_measures 2 al (none, sm_hp r) 12 [.ref 72, .int v1, .int v2, .retAddr 0] [] (sm_hp m) := by
  intro n
  induction n with
  | zero =>
    intro v1 v2 m r hf
    unfold fX12_measures_12 at hf
    cases hf
  | succ n ih =>
    intro v1 v2 m r hf
    unfold fX12_measures_12 at hf
    refine w_blk bX12_measures_12 [.ref 72, .int v1, .int v2, .retAddr 0] [.int (m.1 72 3), .int v2] (sm_hp m) [] rfl (sm_on) ?_
    refine w_icmp_ge (tgt := 49) dX12_measures_17 rfl (fun hc => ?_) (fun hc => ?_)
    · replace hf := sm_ift hc hf
      refine w_blk bX12_measures_49 [.ref 72, .int (v1 + (1 : Int32)), .int v2, .retAddr 0] [] (sm_hp m) [] rfl (sm_on) ?_
      refine w_goto (tgt := 2) dX12_measures_52 rfl ?_
      refine w_wk [true, true, false, false] ?_
      exact hk2 (v1 + (1 : Int32)) m r hf
    · replace hf := sm_iff hc hf
      refine w_blk bX12_measures_20 [.ref 72, .int v1, .int v2, .retAddr 0] [.int v2, .int v1, .int (((10 : Int32) * v1) + v2), .ref 99] (sm_hp m) [] rfl (sm_on) ?_
      refine w_icmp_ne (tgt := 39) dX12_measures_32 rfl (fun hc => ?_) (fun hc => ?_)
      · replace hf := sm_iff hc hf
        refine w_blk bX12_measures_39 [.ref 72, .int v1, .int v2, .retAddr 0] [.int (1000000 : Int32), .int (((10 : Int32) * v1) + v2), .ref 99] (sm_hp m) [] rfl (sm_on) ?_
        replace hf := sm_ck hf
        obtain ⟨q21, hf⟩ := hf
        refine w_blk bX12_measures_42 [.ref 72, .int v1, .int (v2 + (1 : Int32)), .retAddr 0] [] (sm_hp (sm_w1 m 99 (((10 : Int32) * v1) + v2).toNatClampNeg (1000000 : Int32))) [((((10 : Int32) * v1) + v2), 100)] rfl (sm_oc q21 (sm_on)) ?_
        refine w_goto (tgt := 12) dX12_measures_46 rfl ?_
        exact ih v1 (v2 + (1 : Int32)) (sm_w1 m 99 (((10 : Int32) * v1) + v2).toNatClampNeg (1000000 : Int32)) r hf
      · replace hf := sm_ift hc hf
        refine w_blk bX12_measures_35 [.ref 72, .int v1, .int v2, .retAddr 0] [.int (0 : Int32), .int (((10 : Int32) * v1) + v2), .ref 99] (sm_hp m) [] rfl (sm_on) ?_
        refine w_goto (tgt := 42) dX12_measures_36 rfl ?_
        replace hf := sm_ck hf
        obtain ⟨q22, hf⟩ := hf
        refine w_blk bX12_measures_42 [.ref 72, .int v1, .int (v2 + (1 : Int32)), .retAddr 0] [] (sm_hp (sm_w1 m 99 (((10 : Int32) * v1) + v2).toNatClampNeg (0 : Int32))) [((((10 : Int32) * v1) + v2), 100)] rfl (sm_oc q22 (sm_on)) ?_
        refine w_goto (tgt := 12) dX12_measures_46 rfl ?_
        exact ih v1 (v2 + (1 : Int32)) (sm_w1 m 99 (((10 : Int32) * v1) + v2).toNatClampNeg (0 : Int32)) r hf
set_option maxRecDepth 10000 in
theorem tX12_measures_2 {l : Launch} {al : Bool} : ∀ (n : Nat) (v1 : Int32) (m : sm_S) (r : sm_S), fX12_measures_2 n v1 m = some r → sm_W l mX12_measures 2 al (none, sm_hp r) 2 [.ref 72, .int v1, .retAddr 0, .retAddr 0] [] (sm_hp m) := by
  intro n
  induction n with
  | zero =>
    intro v1 m r hf
    unfold fX12_measures_2 at hf
    cases hf
  | succ n ih =>
    intro v1 m r hf
    unfold fX12_measures_2 at hf
    refine w_blk bX12_measures_2 [.ref 72, .int v1, .retAddr 0, .retAddr 0] [.int (m.1 72 3), .int v1] (sm_hp m) [] rfl (sm_on) ?_
    refine w_icmp_ge (tgt := 55) dX12_measures_7 rfl (fun hc => ?_) (fun hc => ?_)
    · replace hf := sm_ift hc hf
      refine w_blk bX12_measures_55 [.ref 72, .int (0 : Int32), .retAddr 0, .retAddr 0] [] (sm_hp m) [] rfl (sm_on) ?_
      exact tX12_measures_57 sm_fu (0 : Int32) m r hf
    · replace hf := sm_iff hc hf
      refine w_blk bX12_measures_10 [.ref 72, .int v1, .int (0 : Int32), .retAddr 0] [] (sm_hp m) [] rfl (sm_on) ?_
      exact tX12_measures_12 (fX12_measures_2 n) ih sm_fu v1 (0 : Int32) m r hf
set_option maxRecDepth 10000 in
theorem tX12_measures {l : Launch} {al : Bool} (m : sm_S) (r : sm_S) (hf : fX12_measures m = some r) : sm_Rt l mX12_measures 2 0 0 al al [.ref 72] (sm_hp m) (none, sm_hp r) := by
  refine sm_Rt.ofW (L := [.ref 72, .retAddr 0, .retAddr 0, .retAddr 0]) (by decide) (Nat.le_of_ble_eq_true rfl) rfl ?_
  unfold fX12_measures at hf
  refine w_blk bX12_measures_0 [.ref 72, .int (0 : Int32), .retAddr 0, .retAddr 0] [] (sm_hp m) [] rfl (sm_on) ?_
  exact tX12_measures_2 sm_fu (0 : Int32) m r hf
set_option maxRecDepth 10000 in
theorem tX12_gateBy {l : Launch} {al : Bool} (x1 : Int32) (x2 : Int32) (x3 : Int32) (x4 : Int32) (m : sm_S) (r : Int32) (hf : fX12_gateBy x1 x2 x3 x4 m = some r) : sm_Rt l mX12_gateBy 2 0 0 al al [.ref 72, .int x1, .int x2, .int x3, .int x4] (sm_hp m) (some (.int r), sm_hp m) := by
  refine sm_Rt.ofW (L := [.ref 72, .int x1, .int x2, .int x3, .int x4, .retAddr 0]) (by decide) (Nat.le_of_ble_eq_true rfl) rfl ?_
  unfold fX12_gateBy at hf
  replace hf := sm_ck hf
  obtain ⟨q1, hf⟩ := hf
  refine w_blk bX12_gateBy_0 [.ref 72, .int x1, .int x2, .int x3, .int x4, .retAddr 0] [.int x4, .int x3, .ref 72, .int (m.1 99 (((10 : Int32) * x2) + x4).toNatClampNeg)] (sm_hp m) [((((10 : Int32) * x2) + x4), 100)] rfl (sm_oc q1 (sm_on)) ?_
  replace hf := sm_bd hf
  obtain ⟨r3, q2, hf⟩ := hf
  refine w_callV [.int x3, .int x4] [.int (m.1 99 (((10 : Int32) * x2) + x4).toNatClampNeg)] (tX12_minutesFrom x3 x4 m r3 q2) (cvX12_186 rfl) dX12_gateBy_16 rfl rfl (by decide) (by decide) rfl (Nat.le_of_ble_eq_true rfl) ?_
  show sm_W _ _ _ _ _ 19 [.ref 72, .int x1, .int x2, .int x3, .int x4, .retAddr 0] [.int r3, .int (m.1 99 (((10 : Int32) * x2) + x4).toNatClampNeg)] (sm_hp m)
  refine w_blk bX12_gateBy_19 [.ref 72, .int x1, .int x2, .int x3, .int x4, .retAddr 0] [.int x4, .int x3, .ref 72, .int ((10 : Int32) * (x1 &&& (((1 : Int32) <<< (x3 &&& 31)) ^^^ (-1 : Int32)))), .ref 98, .int ((m.1 99 (((10 : Int32) * x2) + x4).toNatClampNeg) + r3)] (sm_hp m) [] rfl (sm_on) ?_
  replace hf := sm_bd hf
  obtain ⟨r5, q4, hf⟩ := hf
  refine w_callV [.int x3, .int x4] [.int ((10 : Int32) * (x1 &&& (((1 : Int32) <<< (x3 &&& 31)) ^^^ (-1 : Int32)))), .ref 98, .int ((m.1 99 (((10 : Int32) * x2) + x4).toNatClampNeg) + r3)] (tX12_endOf x3 x4 m r5 q4) (cvX12_201 rfl) dX12_gateBy_38 rfl rfl (by decide) (by decide) rfl (Nat.le_of_ble_eq_true rfl) ?_
  show sm_W _ _ _ _ _ 41 [.ref 72, .int x1, .int x2, .int x3, .int x4, .retAddr 0] [.int r5, .int ((10 : Int32) * (x1 &&& (((1 : Int32) <<< (x3 &&& 31)) ^^^ (-1 : Int32)))), .ref 98, .int ((m.1 99 (((10 : Int32) * x2) + x4).toNatClampNeg) + r3)] (sm_hp m)
  replace hf := sm_ck hf
  obtain ⟨q6, hf⟩ := hf
  refine w_blk bX12_gateBy_41 [.ref 72, .int x1, .int x2, .int x3, .int x4, .int (((m.1 99 (((10 : Int32) * x2) + x4).toNatClampNeg) + r3) + (m.1 98 (((10 : Int32) * (x1 &&& (((1 : Int32) <<< (x3 &&& 31)) ^^^ (-1 : Int32)))) + r5).toNatClampNeg))] [.int (if (((m.1 99 (((10 : Int32) * x2) + x4).toNatClampNeg) + r3) + (m.1 98 (((10 : Int32) * (x1 &&& (((1 : Int32) <<< (x3 &&& 31)) ^^^ (-1 : Int32)))) + r5).toNatClampNeg)) < (1000000 : Int32) then (((m.1 99 (((10 : Int32) * x2) + x4).toNatClampNeg) + r3) + (m.1 98 (((10 : Int32) * (x1 &&& (((1 : Int32) <<< (x3 &&& 31)) ^^^ (-1 : Int32)))) + r5).toNatClampNeg)) else (1000000 : Int32))] (sm_hp m) [((((10 : Int32) * (x1 &&& (((1 : Int32) <<< (x3 &&& 31)) ^^^ (-1 : Int32)))) + r5), 163840)] rfl (sm_oc q6 (sm_on)) ?_
  obtain rfl := Option.some.inj hf
  exact w_reti dX12_gateBy_54 rfl rfl
set_option maxRecDepth 10000 in
theorem tX12_gateBest {l : Launch} {al : Bool} (x1 : Int32) (x2 : Int32) (x3 : Int32) (m : sm_S) (r : Int32) (hf : fX12_gateBest x1 x2 x3 m = some r) : sm_Rt l mX12_gateBest 3 0 0 al al [.ref 72, .int x1, .int x2, .int x3] (sm_hp m) (some (.int r), sm_hp m) := by
  refine sm_Rt.ofW (L := [.ref 72, .int x1, .int x2, .int x3]) (by decide) (Nat.le_of_ble_eq_true rfl) rfl ?_
  unfold fX12_gateBest at hf
  replace hf := sm_ck hf
  obtain ⟨q1, hf⟩ := hf
  refine w_blk bX12_gateBest_0 [.ref 72, .int x1, .int x2, .int x3] [.int (m.1 76 (x3).toNatClampNeg), .int x3, .int x2, .int x1, .ref 72] (sm_hp m) [(x3, 14)] rfl (sm_oc q1 (sm_on)) ?_
  replace hf := sm_bd hf
  obtain ⟨r3, q2, hf⟩ := hf
  refine w_callV [.int x1, .int x2, .int x3, .int (m.1 76 (x3).toNatClampNeg)] [] (tX12_gateBy x1 x2 x3 (m.1 76 (x3).toNatClampNeg) m r3 q2) (cvX12_349 rfl) dX12_gateBest_10 rfl rfl (by decide) (by decide) rfl (Nat.le_of_ble_eq_true rfl) ?_
  show sm_W _ _ _ _ _ 13 [.ref 72, .int x1, .int x2, .int x3] [.int r3] (sm_hp m)
  replace hf := sm_ck hf
  obtain ⟨q4, hf⟩ := hf
  refine w_blk bX12_gateBest_13 [.ref 72, .int x1, .int x2, .int x3] [.int (m.1 77 (x3).toNatClampNeg), .int x3, .int x2, .int x1, .ref 72, .int r3] (sm_hp m) [(x3, 14)] rfl (sm_oc q4 (sm_on)) ?_
  replace hf := sm_bd hf
  obtain ⟨r6, q5, hf⟩ := hf
  refine w_callV [.int x1, .int x2, .int x3, .int (m.1 77 (x3).toNatClampNeg)] [.int r3] (tX12_gateBy x1 x2 x3 (m.1 77 (x3).toNatClampNeg) m r6 q5) (cvX12_349 rfl) dX12_gateBest_23 rfl rfl (by decide) (by decide) rfl (Nat.le_of_ble_eq_true rfl) ?_
  show sm_W _ _ _ _ _ 26 [.ref 72, .int x1, .int x2, .int x3] [.int r6, .int r3] (sm_hp m)
  refine w_blk bX12_gateBest_26 [.ref 72, .int x1, .int x2, .int x3] [.int (if r6 < r3 then r6 else r3)] (sm_hp m) [] rfl (sm_on) ?_
  obtain rfl := Option.some.inj hf
  exact w_reti dX12_gateBest_29 rfl rfl
set_option maxRecDepth 10000 in
theorem tX12_laysOutGates_53 {l : Launch} {al : Bool} (k30 : Int32 → Int32 → sm_S → Option (sm_S)) (k6 : Int32 → sm_S → Option (sm_S)) (hk30 : ∀ (v1 : Int32) (v2 : Int32) (m : sm_S) (r : sm_S), k30 v1 v2 m = some r → sm_W l mX12_laysOutGates 4 al (none, sm_hp r) 30 [.ref 72, .int v1, .int v2, .retAddr 0, .retAddr 0] [] (sm_hp m)) (hk6 : ∀ (v1 : Int32) (m : sm_S) (r : sm_S), k6 v1 m = some r → sm_W l mX12_laysOutGates 4 al (none, sm_hp r) 6 [.ref 72, .int v1, .retAddr 0, .retAddr 0, .retAddr 0] [] (sm_hp m)) : ∀ (n : Nat) (v1 : Int32) (v2 : Int32) (v3 : Int32) (v4 : Int32) (m : sm_S) (r : sm_S), fX12_laysOutGates_53 k30 k6 n v1 v2 v3 v4 m = some r → sm_W l mX12_laysOutGates 4 al (none, sm_hp r) 53 [.ref 72, .int v1, .int v2, .int v3, .int v4] [] (sm_hp m) := by
  intro n
  induction n with
  | zero =>
    intro v1 v2 v3 v4 m r hf
    unfold fX12_laysOutGates_53 at hf
    cases hf
  | succ n ih =>
    intro v1 v2 v3 v4 m r hf
    unfold fX12_laysOutGates_53 at hf
    refine w_blk bX12_laysOutGates_53 [.ref 72, .int v1, .int v2, .int v3, .int v4] [.int (m.1 72 6), .int v4] (sm_hp m) [] rfl (sm_on) ?_
    refine w_icmp_ge (tgt := 94) dX12_laysOutGates_59 rfl (fun hc => ?_) (fun hc => ?_)
    · replace hf := sm_ift hc hf
      replace hf := sm_ck hf
      obtain ⟨q5, hf⟩ := hf
      refine w_blk bX12_laysOutGates_94 [.ref 72, .int v1, .int (v2 + (1 : Int32)), .int v3, .int v4] [] (sm_hp (sm_w1 m 98 (((10 : Int32) * v1) + v2).toNatClampNeg v3)) [((((10 : Int32) * v1) + v2), 163840)] rfl (sm_oc q5 (sm_on)) ?_
      refine w_goto (tgt := 30) dX12_laysOutGates_109 rfl ?_
      refine w_wk [true, true, true, false, false] ?_
      exact hk30 v1 (v2 + (1 : Int32)) (sm_w1 m 98 (((10 : Int32) * v1) + v2).toNatClampNeg v3) r hf
    · replace hf := sm_iff hc hf
      refine w_blk bX12_laysOutGates_62 [.ref 72, .int v1, .int v2, .int v3, .int v4] [.int v4, .int v1] (sm_hp m) [] rfl (sm_on) ?_
      replace hf := sm_bd hf
      obtain ⟨r7, q6, hf⟩ := hf
      refine w_callS [.int v1, .int v4] [] (tX12_has v1 v4 m r7 q6) (csX12_144 rfl) dX12_laysOutGates_65 rfl rfl (by decide) (by decide) (Nat.le_of_ble_eq_true rfl) ?_
      show sm_W _ _ _ _ _ 68 [.ref 72, .int v1, .int v2, .int v3, .int v4] [.int r7] (sm_hp m)
      refine w_if_eq (tgt := 86) dX12_laysOutGates_68 rfl (fun hc => ?_) (fun hc => ?_)
      · replace hf := sm_ift hc hf
        refine w_blk bX12_laysOutGates_86 [.ref 72, .int v1, .int v2, .int v3, .int v4] [.int v3] (sm_hp m) [] rfl (sm_on) ?_
        refine w_blk bX12_laysOutGates_87 [.ref 72, .int v1, .int v2, .int v3, .int (v4 + (1 : Int32))] [] (sm_hp m) [] rfl (sm_on) ?_
        refine w_goto (tgt := 53) dX12_laysOutGates_91 rfl ?_
        exact ih v1 v2 v3 (v4 + (1 : Int32)) m r hf
      · replace hf := sm_iff hc hf
        refine w_blk bX12_laysOutGates_71 [.ref 72, .int v1, .int v2, .int v3, .int v4] [.int v4, .int v2, .int v1, .ref 72, .int v3] (sm_hp m) [] rfl (sm_on) ?_
        replace hf := sm_bd hf
        obtain ⟨r9, q8, hf⟩ := hf
        refine w_callV [.int v1, .int v2, .int v4] [.int v3] (tX12_gateBest v1 v2 v4 m r9 q8) (cvX12_356 rfl) dX12_laysOutGates_77 rfl rfl (by decide) (by decide) rfl (Nat.le_of_ble_eq_true rfl) ?_
        show sm_W _ _ _ _ _ 80 [.ref 72, .int v1, .int v2, .int v3, .int v4] [.int r9, .int v3] (sm_hp m)
        refine w_blk bX12_laysOutGates_80 [.ref 72, .int v1, .int v2, .int v3, .int v4] [.int (if r9 < v3 then r9 else v3)] (sm_hp m) [] rfl (sm_on) ?_
        refine w_goto (tgt := 87) dX12_laysOutGates_83 rfl ?_
        refine w_blk bX12_laysOutGates_87 [.ref 72, .int v1, .int v2, .int (if r9 < v3 then r9 else v3), .int (v4 + (1 : Int32))] [] (sm_hp m) [] rfl (sm_on) ?_
        refine w_goto (tgt := 53) dX12_laysOutGates_91 rfl ?_
        exact ih v1 v2 (if r9 < v3 then r9 else v3) (v4 + (1 : Int32)) m r hf
set_option maxRecDepth 10000 in
theorem tX12_laysOutGates_30 {l : Launch} {al : Bool} (k6 : Int32 → sm_S → Option (sm_S)) (hk6 : ∀ (v1 : Int32) (m : sm_S) (r : sm_S), k6 v1 m = some r → sm_W l mX12_laysOutGates 4 al (none, sm_hp r) 6 [.ref 72, .int v1, .retAddr 0, .retAddr 0, .retAddr 0] [] (sm_hp m)) : ∀ (n : Nat) (v1 : Int32) (v2 : Int32) (m : sm_S) (r : sm_S), fX12_laysOutGates_30 k6 n v1 v2 m = some r → sm_W l mX12_laysOutGates 4 al (none, sm_hp r) 30 [.ref 72, .int v1, .int v2, .retAddr 0, .retAddr 0] [] (sm_hp m) := by
  intro n
  induction n with
  | zero =>
    intro v1 v2 m r hf
    unfold fX12_laysOutGates_30 at hf
    cases hf
  | succ n ih =>
    intro v1 v2 m r hf
    unfold fX12_laysOutGates_30 at hf
    refine w_blk bX12_laysOutGates_30 [.ref 72, .int v1, .int v2, .retAddr 0, .retAddr 0] [.int (m.1 72 3), .int v2] (sm_hp m) [] rfl (sm_on) ?_
    refine w_icmp_ge (tgt := 112) dX12_laysOutGates_35 rfl (fun hc => ?_) (fun hc => ?_)
    · replace hf := sm_ift hc hf
      refine w_blk bX12_laysOutGates_112 [.ref 72, .int (v1 + (1 : Int32)), .int v2, .retAddr 0, .retAddr 0] [] (sm_hp m) [] rfl (sm_on) ?_
      refine w_goto (tgt := 6) dX12_laysOutGates_115 rfl ?_
      refine w_wk [true, true, false, false, false] ?_
      exact hk6 (v1 + (1 : Int32)) m r hf
    · replace hf := sm_iff hc hf
      refine w_blk bX12_laysOutGates_38 [.ref 72, .int v1, .int v2, .retAddr 0, .retAddr 0] [.int v1] (sm_hp m) [] rfl (sm_on) ?_
      refine w_if_ne (tgt := 46) dX12_laysOutGates_39 rfl (fun hc => ?_) (fun hc => ?_)
      · replace hf := sm_iff hc hf
        refine w_blk bX12_laysOutGates_46 [.ref 72, .int v1, .int v2, .retAddr 0, .retAddr 0] [.int (1000000 : Int32)] (sm_hp m) [] rfl (sm_on) ?_
        refine w_blk bX12_laysOutGates_49 [.ref 72, .int v1, .int v2, .int (1000000 : Int32), .int (0 : Int32)] [] (sm_hp m) [] rfl (sm_on) ?_
        exact tX12_laysOutGates_53 (fX12_laysOutGates_30 k6 n) k6 ih hk6 sm_fu v1 v2 (1000000 : Int32) (0 : Int32) m r hf
      · replace hf := sm_ift hc hf
        refine w_blk bX12_laysOutGates_42 [.ref 72, .int v1, .int v2, .retAddr 0, .retAddr 0] [.int (0 : Int32)] (sm_hp m) [] rfl (sm_on) ?_
        refine w_goto (tgt := 49) dX12_laysOutGates_43 rfl ?_
        refine w_blk bX12_laysOutGates_49 [.ref 72, .int v1, .int v2, .int (0 : Int32), .int (0 : Int32)] [] (sm_hp m) [] rfl (sm_on) ?_
        exact tX12_laysOutGates_53 (fX12_laysOutGates_30 k6 n) k6 ih hk6 sm_fu v1 v2 (0 : Int32) (0 : Int32) m r hf
set_option maxRecDepth 10000 in
theorem tX12_laysOutGates_6 {l : Launch} {al : Bool} : ∀ (n : Nat) (v1 : Int32) (m : sm_S) (r : sm_S), fX12_laysOutGates_6 n v1 m = some r → sm_W l mX12_laysOutGates 4 al (none, sm_hp r) 6 [.ref 72, .int v1, .retAddr 0, .retAddr 0, .retAddr 0] [] (sm_hp m) := by
  intro n
  induction n with
  | zero =>
    intro v1 m r hf
    unfold fX12_laysOutGates_6 at hf
    cases hf
  | succ n ih =>
    intro v1 m r hf
    unfold fX12_laysOutGates_6 at hf
    refine w_blk bX12_laysOutGates_6 [.ref 72, .int v1, .retAddr 0, .retAddr 0, .retAddr 0] [.ref 72, .int v1] (sm_hp m) [] rfl (sm_on) ?_
    replace hf := sm_bd hf
    obtain ⟨r4, q3, hf⟩ := hf
    refine w_callV [] [.int v1] (tX12_allHedges m r4 q3) (cvX12_266 rfl) dX12_laysOutGates_8 rfl rfl (by decide) (by decide) rfl (Nat.le_of_ble_eq_true rfl) ?_
    show sm_W _ _ _ _ _ 11 [.ref 72, .int v1, .retAddr 0, .retAddr 0, .retAddr 0] [.int r4, .int v1] (sm_hp m)
    refine w_icmp_gt (tgt := 118) dX12_laysOutGates_11 rfl (fun hc => ?_) (fun hc => ?_)
    · replace hf := sm_ift hc hf
      obtain rfl := Option.some.inj hf
      exact w_retv dX12_laysOutGates_118 rfl
    · replace hf := sm_iff hc hf
      refine w_blk bX12_laysOutGates_14 [.ref 72, .int v1, .retAddr 0, .retAddr 0, .retAddr 0] [.int (v1 &&& ((m.1 72 14) ^^^ (-1 : Int32)))] (sm_hp m) [] rfl (sm_on) ?_
      refine w_if_eq (tgt := 28) dX12_laysOutGates_22 rfl (fun hc => ?_) (fun hc => ?_)
      · replace hf := sm_ift hc hf
        refine w_blk bX12_laysOutGates_28 [.ref 72, .int v1, .int (0 : Int32), .retAddr 0, .retAddr 0] [] (sm_hp m) [] rfl (sm_on) ?_
        exact tX12_laysOutGates_30 (fX12_laysOutGates_6 n) ih sm_fu v1 (0 : Int32) m r hf
      · replace hf := sm_iff hc hf
        refine w_goto (tgt := 112) dX12_laysOutGates_25 rfl ?_
        refine w_blk bX12_laysOutGates_112 [.ref 72, .int (v1 + (1 : Int32)), .retAddr 0, .retAddr 0, .retAddr 0] [] (sm_hp m) [] rfl (sm_on) ?_
        refine w_goto (tgt := 6) dX12_laysOutGates_115 rfl ?_
        exact ih (v1 + (1 : Int32)) m r hf
set_option maxRecDepth 10000 in
theorem tX12_laysOutGates {l : Launch} {al : Bool} (m : sm_S) (r : sm_S) (hf : fX12_laysOutGates m = some r) : sm_Rt l mX12_laysOutGates 4 0 0 al al [.ref 72] (sm_hp m) (none, sm_hp r) := by
  refine sm_Rt.ofW (L := [.ref 72, .retAddr 0, .retAddr 0, .retAddr 0, .retAddr 0]) (by decide) (Nat.le_of_ble_eq_true rfl) rfl ?_
  unfold fX12_laysOutGates at hf
  refine w_blk bX12_laysOutGates_0 [.ref 72, .retAddr 0, .retAddr 0, .retAddr 0, .retAddr 0] [.ref 72] (sm_hp m) [] rfl (sm_on) ?_
  replace hf := sm_bd hf
  obtain ⟨m2, q1, hf⟩ := hf
  refine w_callV [] [] (tX12_measures m m2 q1) (cvX12_353 rfl) dX12_laysOutGates_1 rfl rfl (by decide) (by decide) rfl (Nat.le_of_ble_eq_true rfl) ?_
  show sm_W _ _ _ _ _ 4 [.ref 72, .retAddr 0, .retAddr 0, .retAddr 0, .retAddr 0] [] (sm_hp m2)
  refine w_blk bX12_laysOutGates_4 [.ref 72, .int (0 : Int32), .retAddr 0, .retAddr 0, .retAddr 0] [] (sm_hp m2) [] rfl (sm_on) ?_
  exact tX12_laysOutGates_6 sm_fu (0 : Int32) m2 r hf
set_option maxRecDepth 10000 in
theorem tX12_isOnWay_6 {l : Launch} {al : Bool} : ∀ (n : Nat) (v1 : Int32) (v2 : Int32) (v3 : Int32) (v4 : Int32) (v5 : Int32) (m : sm_S) (r : Int32), fX12_isOnWay_6 n v1 v2 v3 v4 v5 m = some r → sm_W l mX12_isOnWay 4 al (some (.int r), sm_hp m) 6 [.ref 72, .int v1, .int v2, .int v3, .int v4, .int v5] [] (sm_hp m) := by
  intro n
  induction n with
  | zero =>
    intro v1 v2 v3 v4 v5 m r hf
    unfold fX12_isOnWay_6 at hf
    cases hf
  | succ n ih =>
    intro v1 v2 v3 v4 v5 m r hf
    unfold fX12_isOnWay_6 at hf
    refine w_blk bX12_isOnWay_6 [.ref 72, .int v1, .int v2, .int v3, .int v4, .int v5] [.int (m.1 72 3), .int v5] (sm_hp m) [] rfl (sm_on) ?_
    refine w_icmp_ge (tgt := 66) dX12_isOnWay_12 rfl (fun hc => ?_) (fun hc => ?_)
    · replace hf := sm_ift hc hf
      refine w_blk bX12_isOnWay_66 [.ref 72, .int v1, .int v2, .int v3, .int v4, .int v5] [.int v4] (sm_hp m) [] rfl (sm_on) ?_
      replace hf := sm_ck hf
      obtain ⟨q1, hf⟩ := hf
      obtain rfl := Option.some.inj hf
      exact w_reti dX12_isOnWay_68 rfl q1
    · replace hf := sm_iff hc hf
      refine w_blk bX12_isOnWay_15 [.ref 72, .int v1, .int v2, .int v3, .int v4, .int v5] [.int v4] (sm_hp m) [] rfl (sm_on) ?_
      refine w_if_ne (tgt := 53) dX12_isOnWay_17 rfl (fun hc => ?_) (fun hc => ?_)
      · replace hf := sm_iff hc hf
        refine w_blk bX12_isOnWay_53 [.ref 72, .int v1, .int v2, .int v3, .int v4, .int v5] [.int (1 : Int32)] (sm_hp m) [] rfl (sm_on) ?_
        refine w_goto (tgt := 58) dX12_isOnWay_54 rfl ?_
        refine w_blk bX12_isOnWay_58 [.ref 72, .int v1, .int v2, .int v3, .int (1 : Int32), .int (v5 + (1 : Int32))] [] (sm_hp m) [] rfl (sm_on) ?_
        refine w_goto (tgt := 6) dX12_isOnWay_63 rfl ?_
        exact ih v1 v2 v3 (1 : Int32) (v5 + (1 : Int32)) m r hf
      · replace hf := sm_ift hc hf
        replace hf := sm_ck hf
        obtain ⟨q2, hf⟩ := hf
        refine w_blk bX12_isOnWay_20 [.ref 72, .int v1, .int v2, .int v3, .int v4, .int v5] [.int (1000000 : Int32), .int (m.1 100 (v5).toNatClampNeg)] (sm_hp m) [(v5, 10)] rfl (sm_oc q2 (sm_on)) ?_
        refine w_icmp_ge (tgt := 57) dX12_isOnWay_30 rfl (fun hc => ?_) (fun hc => ?_)
        · replace hf := sm_ift hc hf
          refine w_blk bX12_isOnWay_57 [.ref 72, .int v1, .int v2, .int v3, .int v4, .int v5] [.int (0 : Int32)] (sm_hp m) [] rfl (sm_on) ?_
          refine w_blk bX12_isOnWay_58 [.ref 72, .int v1, .int v2, .int v3, .int (0 : Int32), .int (v5 + (1 : Int32))] [] (sm_hp m) [] rfl (sm_on) ?_
          refine w_goto (tgt := 6) dX12_isOnWay_63 rfl ?_
          exact ih v1 v2 v3 (0 : Int32) (v5 + (1 : Int32)) m r hf
        · replace hf := sm_iff hc hf
          replace hf := sm_ck hf
          obtain ⟨q3, hf⟩ := hf
          refine w_blk bX12_isOnWay_33 [.ref 72, .int v1, .int v2, .int v3, .int v4, .int v5] [.int v2, .int v5, .int v1, .ref 72, .int (m.1 100 (v5).toNatClampNeg)] (sm_hp m) [(v5, 10)] rfl (sm_oc q3 (sm_on)) ?_
          replace hf := sm_bd hf
          obtain ⟨r5, q4, hf⟩ := hf
          refine w_callV [.int v1, .int v5, .int v2] [.int (m.1 100 (v5).toNatClampNeg)] (tX12_gateBest v1 v5 v2 m r5 q4) (cvX12_356 rfl) dX12_isOnWay_45 rfl rfl (by decide) (by decide) rfl (Nat.le_of_ble_eq_true rfl) ?_
          show sm_W _ _ _ _ _ 48 [.ref 72, .int v1, .int v2, .int v3, .int v4, .int v5] [.int r5, .int (m.1 100 (v5).toNatClampNeg)] (sm_hp m)
          refine w_blk bX12_isOnWay_48 [.ref 72, .int v1, .int v2, .int v3, .int v4, .int v5] [.int v3, .int ((m.1 100 (v5).toNatClampNeg) + r5)] (sm_hp m) [] rfl (sm_on) ?_
          refine w_icmp_ne (tgt := 57) dX12_isOnWay_50 rfl (fun hc => ?_) (fun hc => ?_)
          · replace hf := sm_iff hc hf
            refine w_blk bX12_isOnWay_57 [.ref 72, .int v1, .int v2, .int v3, .int v4, .int v5] [.int (0 : Int32)] (sm_hp m) [] rfl (sm_on) ?_
            refine w_blk bX12_isOnWay_58 [.ref 72, .int v1, .int v2, .int v3, .int (0 : Int32), .int (v5 + (1 : Int32))] [] (sm_hp m) [] rfl (sm_on) ?_
            refine w_goto (tgt := 6) dX12_isOnWay_63 rfl ?_
            exact ih v1 v2 v3 (0 : Int32) (v5 + (1 : Int32)) m r hf
          · replace hf := sm_ift hc hf
            refine w_blk bX12_isOnWay_53 [.ref 72, .int v1, .int v2, .int v3, .int v4, .int v5] [.int (1 : Int32)] (sm_hp m) [] rfl (sm_on) ?_
            refine w_goto (tgt := 58) dX12_isOnWay_54 rfl ?_
            refine w_blk bX12_isOnWay_58 [.ref 72, .int v1, .int v2, .int v3, .int (1 : Int32), .int (v5 + (1 : Int32))] [] (sm_hp m) [] rfl (sm_on) ?_
            refine w_goto (tgt := 6) dX12_isOnWay_63 rfl ?_
            exact ih v1 v2 v3 (1 : Int32) (v5 + (1 : Int32)) m r hf
set_option maxRecDepth 10000 in
theorem tX12_isOnWay {l : Launch} {al : Bool} (x1 : Int32) (x2 : Int32) (x3 : Int32) (m : sm_S) (r : Int32) (hf : fX12_isOnWay x1 x2 x3 m = some r) : sm_Rt l mX12_isOnWay 4 0 0 al al [.ref 72, .int x1, .int x2, .int x3] (sm_hp m) (some (.int r), sm_hp m) := by
  refine sm_Rt.ofW (L := [.ref 72, .int x1, .int x2, .int x3, .retAddr 0, .retAddr 0]) (by decide) (Nat.le_of_ble_eq_true rfl) rfl ?_
  unfold fX12_isOnWay at hf
  refine w_blk bX12_isOnWay_0 [.ref 72, .int x1, .int x2, .int x3, .int (0 : Int32), .int (0 : Int32)] [] (sm_hp m) [] rfl (sm_on) ?_
  exact tX12_isOnWay_6 sm_fu x1 x2 x3 (0 : Int32) (0 : Int32) m r hf
set_option maxRecDepth 10000 in
theorem tX12_comesTo {l : Launch} {al : Bool} (x1 : Int32) (x2 : Int32) (m : sm_S) (r : sm_S) (hf : fX12_comesTo x1 x2 m = some r) : sm_Rt l mX12_comesTo 1 0 0 al al [.ref 72, .int x1, .int x2] (sm_hp m) (none, sm_hp r) := by
  refine sm_Rt.ofW (L := [.ref 72, .int x1, .int x2]) (by decide) (Nat.le_of_ble_eq_true rfl) rfl ?_
  unfold fX12_comesTo at hf
  replace hf := sm_ck hf
  obtain ⟨q1, hf⟩ := hf
  replace hf := sm_ck hf
  obtain ⟨q2, hf⟩ := hf
  refine w_blk bX12_comesTo_0 [.ref 72, .int x1, .int x2] [] (sm_hp (sm_w1 m 101 (x1).toNatClampNeg (if (if x2 < (1000000 : Int32) then x2 else (1000000 : Int32)) < (m.1 101 (x1).toNatClampNeg) then (if x2 < (1000000 : Int32) then x2 else (1000000 : Int32)) else (m.1 101 (x1).toNatClampNeg)))) [(x1, 10), (x1, 10)] rfl (sm_oc q1 (sm_oc q2 (sm_on))) ?_
  obtain rfl := Option.some.inj hf
  exact w_retv dX12_comesTo_22 rfl
set_option maxRecDepth 10000 in
theorem tX12_goesThrough_145 {l : Launch} {al : Bool} : ∀ (n : Nat) (v2 : Int32) (m : sm_S) (r : sm_S), fX12_goesThrough_145 n v2 m = some r → sm_W l mX12_goesThrough 2 al (none, sm_hp r) 145 [.ref 72, .retAddr 0, .int v2] [] (sm_hp m) := by
  intro n
  induction n with
  | zero =>
    intro v2 m r hf
    unfold fX12_goesThrough_145 at hf
    cases hf
  | succ n ih =>
    intro v2 m r hf
    unfold fX12_goesThrough_145 at hf
    refine w_blk bX12_goesThrough_145 [.ref 72, .retAddr 0, .int v2] [.int (m.1 72 3), .int v2] (sm_hp m) [] rfl (sm_on) ?_
    refine w_icmp_ge (tgt := 171) dX12_goesThrough_150 rfl (fun hc => ?_) (fun hc => ?_)
    · replace hf := sm_ift hc hf
      obtain rfl := Option.some.inj hf
      exact w_retv dX12_goesThrough_171 rfl
    · replace hf := sm_iff hc hf
      replace hf := sm_ck hf
      obtain ⟨q1, hf⟩ := hf
      replace hf := sm_ck hf
      obtain ⟨q2, hf⟩ := hf
      refine w_blk bX12_goesThrough_153 [.ref 72, .retAddr 0, .int (v2 + (1 : Int32))] [] (sm_hp (sm_w1 m 100 (v2).toNatClampNeg (m.1 101 (v2).toNatClampNeg))) [(v2, 10), (v2, 10)] rfl (sm_oc q1 (sm_oc q2 (sm_on))) ?_
      refine w_goto (tgt := 145) dX12_goesThrough_168 rfl ?_
      exact ih (v2 + (1 : Int32)) (sm_w1 m 100 (v2).toNatClampNeg (m.1 101 (v2).toNatClampNeg)) r hf
set_option maxRecDepth 10000 in
theorem tX12_goesThrough_27 {l : Launch} {al : Bool} : ∀ (n : Nat) (v1 : Int32) (v2 : Int32) (m : sm_S) (r : sm_S), fX12_goesThrough_27 n v1 v2 m = some r → sm_W l mX12_goesThrough 2 al (none, sm_hp r) 27 [.ref 72, .int v1, .int v2] [] (sm_hp m) := by
  intro n
  induction n with
  | zero =>
    intro v1 v2 m r hf
    unfold fX12_goesThrough_27 at hf
    cases hf
  | succ n ih =>
    intro v1 v2 m r hf
    unfold fX12_goesThrough_27 at hf
    refine w_blk bX12_goesThrough_27 [.ref 72, .int v1, .int v2] [.int (m.1 72 3), .int v2] (sm_hp m) [] rfl (sm_on) ?_
    refine w_icmp_ge (tgt := 143) dX12_goesThrough_32 rfl (fun hc => ?_) (fun hc => ?_)
    · replace hf := sm_ift hc hf
      refine w_blk bX12_goesThrough_143 [.ref 72, .int v1, .int (0 : Int32)] [] (sm_hp m) [] rfl (sm_on) ?_
      refine w_wk [true, false, true] ?_
      exact tX12_goesThrough_145 sm_fu (0 : Int32) m r hf
    · replace hf := sm_iff hc hf
      replace hf := sm_ck hf
      obtain ⟨q3, hf⟩ := hf
      refine w_blk bX12_goesThrough_35 [.ref 72, .int v1, .int v2] [.int (1000000 : Int32), .int (m.1 100 (v2).toNatClampNeg)] (sm_hp m) [(v2, 10)] rfl (sm_oc q3 (sm_on)) ?_
      refine w_icmp_ge (tgt := 137) dX12_goesThrough_44 rfl (fun hc => ?_) (fun hc => ?_)
      · replace hf := sm_ift hc hf
        refine w_blk bX12_goesThrough_137 [.ref 72, .int v1, .int (v2 + (1 : Int32))] [] (sm_hp m) [] rfl (sm_on) ?_
        refine w_goto (tgt := 27) dX12_goesThrough_140 rfl ?_
        exact ih v1 (v2 + (1 : Int32)) m r hf
      · replace hf := sm_iff hc hf
        replace hf := sm_ck hf
        obtain ⟨q4, hf⟩ := hf
        replace hf := sm_ck hf
        obtain ⟨q5, hf⟩ := hf
        replace hf := sm_ck hf
        obtain ⟨q6, hf⟩ := hf
        replace hf := sm_ck hf
        obtain ⟨q7, hf⟩ := hf
        replace hf := sm_ck hf
        obtain ⟨q8, hf⟩ := hf
        refine w_blk bX12_goesThrough_47 [.ref 72, .int v1, .int v2] [.int (m.1 76 (v1).toNatClampNeg), .int v1, .ref 72, .int ((m.1 100 (v2).toNatClampNeg) + (m.1 99 (((10 : Int32) * v2) + (m.1 76 (v1).toNatClampNeg)).toNatClampNeg)), .int (m.1 77 (v1).toNatClampNeg), .ref 72] (sm_hp m) [(v1, 14), (v2, 10), (v1, 14), ((((10 : Int32) * v2) + (m.1 76 (v1).toNatClampNeg)), 100), (v1, 14)] rfl (sm_oc q4 (sm_oc q5 (sm_oc q6 (sm_oc q7 (sm_oc q8 (sm_on)))))) ?_
        replace hf := sm_bd hf
        obtain ⟨r10, q9, hf⟩ := hf
        refine w_callV [.int v1, .int (m.1 76 (v1).toNatClampNeg)] [.int ((m.1 100 (v2).toNatClampNeg) + (m.1 99 (((10 : Int32) * v2) + (m.1 76 (v1).toNatClampNeg)).toNatClampNeg)), .int (m.1 77 (v1).toNatClampNeg), .ref 72] (tX12_minutesFrom v1 (m.1 76 (v1).toNatClampNeg) m r10 q9) (cvX12_186 rfl) dX12_goesThrough_85 rfl rfl (by decide) (by decide) rfl (Nat.le_of_ble_eq_true rfl) ?_
        show sm_W _ _ _ _ _ 88 [.ref 72, .int v1, .int v2] [.int r10, .int ((m.1 100 (v2).toNatClampNeg) + (m.1 99 (((10 : Int32) * v2) + (m.1 76 (v1).toNatClampNeg)).toNatClampNeg)), .int (m.1 77 (v1).toNatClampNeg), .ref 72] (sm_hp m)
        refine w_blk bX12_goesThrough_88 [.ref 72, .int v1, .int v2] [.int (((m.1 100 (v2).toNatClampNeg) + (m.1 99 (((10 : Int32) * v2) + (m.1 76 (v1).toNatClampNeg)).toNatClampNeg)) + r10), .int (m.1 77 (v1).toNatClampNeg), .ref 72] (sm_hp m) [] rfl (sm_on) ?_
        replace hf := sm_bd hf
        obtain ⟨m12, q11, hf⟩ := hf
        refine w_callV [.int (m.1 77 (v1).toNatClampNeg), .int (((m.1 100 (v2).toNatClampNeg) + (m.1 99 (((10 : Int32) * v2) + (m.1 76 (v1).toNatClampNeg)).toNatClampNeg)) + r10)] [] (tX12_comesTo (m.1 77 (v1).toNatClampNeg) (((m.1 100 (v2).toNatClampNeg) + (m.1 99 (((10 : Int32) * v2) + (m.1 76 (v1).toNatClampNeg)).toNatClampNeg)) + r10) m m12 q11) (cvX12_375 rfl) dX12_goesThrough_89 rfl rfl (by decide) (by decide) rfl (Nat.le_of_ble_eq_true rfl) ?_
        show sm_W _ _ _ _ _ 92 [.ref 72, .int v1, .int v2] [] (sm_hp m12)
        replace hf := sm_ck hf
        obtain ⟨q13, hf⟩ := hf
        replace hf := sm_ck hf
        obtain ⟨q14, hf⟩ := hf
        replace hf := sm_ck hf
        obtain ⟨q15, hf⟩ := hf
        replace hf := sm_ck hf
        obtain ⟨q16, hf⟩ := hf
        replace hf := sm_ck hf
        obtain ⟨q17, hf⟩ := hf
        refine w_blk bX12_goesThrough_92 [.ref 72, .int v1, .int v2] [.int (m12.1 77 (v1).toNatClampNeg), .int v1, .ref 72, .int ((m12.1 100 (v2).toNatClampNeg) + (m12.1 99 (((10 : Int32) * v2) + (m12.1 77 (v1).toNatClampNeg)).toNatClampNeg)), .int (m12.1 76 (v1).toNatClampNeg), .ref 72] (sm_hp m12) [(v1, 14), (v2, 10), (v1, 14), ((((10 : Int32) * v2) + (m12.1 77 (v1).toNatClampNeg)), 100), (v1, 14)] rfl (sm_oc q13 (sm_oc q14 (sm_oc q15 (sm_oc q16 (sm_oc q17 (sm_on)))))) ?_
        replace hf := sm_bd hf
        obtain ⟨r19, q18, hf⟩ := hf
        refine w_callV [.int v1, .int (m12.1 77 (v1).toNatClampNeg)] [.int ((m12.1 100 (v2).toNatClampNeg) + (m12.1 99 (((10 : Int32) * v2) + (m12.1 77 (v1).toNatClampNeg)).toNatClampNeg)), .int (m12.1 76 (v1).toNatClampNeg), .ref 72] (tX12_minutesFrom v1 (m12.1 77 (v1).toNatClampNeg) m12 r19 q18) (cvX12_186 rfl) dX12_goesThrough_130 rfl rfl (by decide) (by decide) rfl (Nat.le_of_ble_eq_true rfl) ?_
        show sm_W _ _ _ _ _ 133 [.ref 72, .int v1, .int v2] [.int r19, .int ((m12.1 100 (v2).toNatClampNeg) + (m12.1 99 (((10 : Int32) * v2) + (m12.1 77 (v1).toNatClampNeg)).toNatClampNeg)), .int (m12.1 76 (v1).toNatClampNeg), .ref 72] (sm_hp m12)
        refine w_blk bX12_goesThrough_133 [.ref 72, .int v1, .int v2] [.int (((m12.1 100 (v2).toNatClampNeg) + (m12.1 99 (((10 : Int32) * v2) + (m12.1 77 (v1).toNatClampNeg)).toNatClampNeg)) + r19), .int (m12.1 76 (v1).toNatClampNeg), .ref 72] (sm_hp m12) [] rfl (sm_on) ?_
        replace hf := sm_bd hf
        obtain ⟨m21, q20, hf⟩ := hf
        refine w_callV [.int (m12.1 76 (v1).toNatClampNeg), .int (((m12.1 100 (v2).toNatClampNeg) + (m12.1 99 (((10 : Int32) * v2) + (m12.1 77 (v1).toNatClampNeg)).toNatClampNeg)) + r19)] [] (tX12_comesTo (m12.1 76 (v1).toNatClampNeg) (((m12.1 100 (v2).toNatClampNeg) + (m12.1 99 (((10 : Int32) * v2) + (m12.1 77 (v1).toNatClampNeg)).toNatClampNeg)) + r19) m12 m21 q20) (cvX12_375 rfl) dX12_goesThrough_134 rfl rfl (by decide) (by decide) rfl (Nat.le_of_ble_eq_true rfl) ?_
        show sm_W _ _ _ _ _ 137 [.ref 72, .int v1, .int v2] [] (sm_hp m21)
        refine w_blk bX12_goesThrough_137 [.ref 72, .int v1, .int (v2 + (1 : Int32))] [] (sm_hp m21) [] rfl (sm_on) ?_
        refine w_goto (tgt := 27) dX12_goesThrough_140 rfl ?_
        exact ih v1 (v2 + (1 : Int32)) m21 r hf
set_option maxRecDepth 10000 in
theorem tX12_goesThrough_2 {l : Launch} {al : Bool} : ∀ (n : Nat) (v1 : Int32) (v2 : Int32) (m : sm_S) (r : sm_S), fX12_goesThrough_2 n v1 v2 m = some r → sm_W l mX12_goesThrough 2 al (none, sm_hp r) 2 [.ref 72, .int v1, .int v2] [] (sm_hp m) := by
  intro n
  induction n with
  | zero =>
    intro v1 v2 m r hf
    unfold fX12_goesThrough_2 at hf
    cases hf
  | succ n ih =>
    intro v1 v2 m r hf
    unfold fX12_goesThrough_2 at hf
    refine w_blk bX12_goesThrough_2 [.ref 72, .int v1, .int v2] [.int (m.1 72 3), .int v2] (sm_hp m) [] rfl (sm_on) ?_
    refine w_icmp_ge (tgt := 25) dX12_goesThrough_7 rfl (fun hc => ?_) (fun hc => ?_)
    · replace hf := sm_ift hc hf
      refine w_blk bX12_goesThrough_25 [.ref 72, .int v1, .int (0 : Int32)] [] (sm_hp m) [] rfl (sm_on) ?_
      exact tX12_goesThrough_27 sm_fu v1 (0 : Int32) m r hf
    · replace hf := sm_iff hc hf
      replace hf := sm_ck hf
      obtain ⟨q22, hf⟩ := hf
      refine w_blk bX12_goesThrough_10 [.ref 72, .int v1, .int (v2 + (1 : Int32))] [] (sm_hp (sm_w1 m 101 (v2).toNatClampNeg (1000000 : Int32))) [(v2, 10)] rfl (sm_oc q22 (sm_on)) ?_
      refine w_goto (tgt := 2) dX12_goesThrough_22 rfl ?_
      exact ih v1 (v2 + (1 : Int32)) (sm_w1 m 101 (v2).toNatClampNeg (1000000 : Int32)) r hf
set_option maxRecDepth 10000 in
theorem tX12_goesThrough {l : Launch} {al : Bool} (x1 : Int32) (m : sm_S) (r : sm_S) (hf : fX12_goesThrough x1 m = some r) : sm_Rt l mX12_goesThrough 2 0 0 al al [.ref 72, .int x1] (sm_hp m) (none, sm_hp r) := by
  refine sm_Rt.ofW (L := [.ref 72, .int x1, .retAddr 0]) (by decide) (Nat.le_of_ble_eq_true rfl) rfl ?_
  unfold fX12_goesThrough at hf
  refine w_blk bX12_goesThrough_0 [.ref 72, .int x1, .int (0 : Int32)] [] (sm_hp m) [] rfl (sm_on) ?_
  exact tX12_goesThrough_2 sm_fu x1 (0 : Int32) m r hf
set_option maxRecDepth 10000 in
theorem tX12_gates_95 {l : Launch} {al : Bool} (k88 : Int32 → Int32 → sm_S → Option (Int32 × sm_S)) (hk88 : ∀ (v2 : Int32) (v3 : Int32) (m : sm_S) (r : Int32 × sm_S), k88 v2 v3 m = some r → sm_W l mX12_gates 5 al (some (.int r.1), sm_hp r.2) 88 [.ref 72, .retAddr 0, .int v2, .int v3, .retAddr 0] [] (sm_hp m)) : ∀ (n : Nat) (v2 : Int32) (v3 : Int32) (v4 : Int32) (m : sm_S) (r : Int32 × sm_S), fX12_gates_95 k88 n v2 v3 v4 m = some r → sm_W l mX12_gates 5 al (some (.int r.1), sm_hp r.2) 95 [.ref 72, .retAddr 0, .int v2, .int v3, .int v4] [] (sm_hp m) := by
  intro n
  induction n with
  | zero =>
    intro v2 v3 v4 m r hf
    unfold fX12_gates_95 at hf
    cases hf
  | succ n ih =>
    intro v2 v3 v4 m r hf
    unfold fX12_gates_95 at hf
    refine w_blk bX12_gates_95 [.ref 72, .retAddr 0, .int v2, .int v3, .int v4] [.int v4, .int v3] (sm_hp m) [] rfl (sm_on) ?_
    replace hf := sm_bd hf
    obtain ⟨r7, q6, hf⟩ := hf
    refine w_callS [.int v3, .int v4] [] (tX12_has v3 v4 m r7 q6) (csX12_144 rfl) dX12_gates_98 rfl rfl (by decide) (by decide) (Nat.le_of_ble_eq_true rfl) ?_
    show sm_W _ _ _ _ _ 101 [.ref 72, .retAddr 0, .int v2, .int v3, .int v4] [.int r7] (sm_hp m)
    refine w_if_eq (tgt := 115) dX12_gates_101 rfl (fun hc => ?_) (fun hc => ?_)
    · replace hf := sm_ift hc hf
      refine w_blk bX12_gates_115 [.ref 72, .retAddr 0, .int v2, .int v3, .int (v4 + (1 : Int32))] [] (sm_hp m) [] rfl (sm_on) ?_
      refine w_goto (tgt := 95) dX12_gates_118 rfl ?_
      exact ih v2 v3 (v4 + (1 : Int32)) m r hf
    · replace hf := sm_iff hc hf
      refine w_blk bX12_gates_104 [.ref 72, .retAddr 0, .int v2, .int v3, .int v4] [.int v2, .int v4, .int v3, .ref 72] (sm_hp m) [] rfl (sm_on) ?_
      replace hf := sm_bd hf
      obtain ⟨r9, q8, hf⟩ := hf
      refine w_callV [.int v3, .int v4, .int v2] [] (tX12_isOnWay v3 v4 v2 m r9 q8) (cvX12_365 rfl) dX12_gates_109 rfl rfl (by decide) (by decide) rfl (Nat.le_of_ble_eq_true rfl) ?_
      show sm_W _ _ _ _ _ 112 [.ref 72, .retAddr 0, .int v2, .int v3, .int v4] [.int r9] (sm_hp m)
      refine w_if_ne (tgt := 121) dX12_gates_112 rfl (fun hc => ?_) (fun hc => ?_)
      · replace hf := sm_iff hc hf
        refine w_blk bX12_gates_121 [.ref 72, .retAddr 0, .int v2, .int v3, .int v4] [.int v4, .ref 72] (sm_hp m) [] rfl (sm_on) ?_
        replace hf := sm_bd hf
        obtain ⟨m11, q10, hf⟩ := hf
        refine w_callV [.int v4] [] (tX12_enters v4 m m11 q10) (cvX12_229 rfl) dX12_gates_124 rfl rfl (by decide) (by decide) rfl (Nat.le_of_ble_eq_true rfl) ?_
        show sm_W _ _ _ _ _ 127 [.ref 72, .retAddr 0, .int v2, .int v3, .int v4] [] (sm_hp m11)
        refine w_blk bX12_gates_127 [.ref 72, .retAddr 0, .int v2, .int v3, .int v4] [.int v4, .ref 72] (sm_hp m11) [] rfl (sm_on) ?_
        replace hf := sm_bd hf
        obtain ⟨m13, q12, hf⟩ := hf
        refine w_callV [.int v4] [] (tX12_goesThrough v4 m11 m13 q12) (cvX12_369 rfl) dX12_gates_130 rfl rfl (by decide) (by decide) rfl (Nat.le_of_ble_eq_true rfl) ?_
        show sm_W _ _ _ _ _ 133 [.ref 72, .retAddr 0, .int v2, .int v3, .int v4] [] (sm_hp m13)
        refine w_blk bX12_gates_133 [.ref 72, .retAddr 0, .int v2, .int (v3 &&& (((1 : Int32) <<< (v4 &&& 31)) ^^^ (-1 : Int32))), .int v4] [] (sm_hp m13) [] rfl (sm_on) ?_
        refine w_goto (tgt := 88) dX12_gates_142 rfl ?_
        refine w_wk [true, false, true, true, false] ?_
        exact hk88 v2 (v3 &&& (((1 : Int32) <<< (v4 &&& 31)) ^^^ (-1 : Int32))) m13 r hf
      · replace hf := sm_ift hc hf
        refine w_blk bX12_gates_115 [.ref 72, .retAddr 0, .int v2, .int v3, .int (v4 + (1 : Int32))] [] (sm_hp m) [] rfl (sm_on) ?_
        refine w_goto (tgt := 95) dX12_gates_118 rfl ?_
        exact ih v2 v3 (v4 + (1 : Int32)) m r hf
set_option maxRecDepth 10000 in
theorem tX12_gates_88 {l : Launch} {al : Bool} : ∀ (n : Nat) (v2 : Int32) (v3 : Int32) (m : sm_S) (r : Int32 × sm_S), fX12_gates_88 n v2 v3 m = some r → sm_W l mX12_gates 5 al (some (.int r.1), sm_hp r.2) 88 [.ref 72, .retAddr 0, .int v2, .int v3, .retAddr 0] [] (sm_hp m) := by
  intro n
  induction n with
  | zero =>
    intro v2 v3 m r hf
    unfold fX12_gates_88 at hf
    cases hf
  | succ n ih =>
    intro v2 v3 m r hf
    unfold fX12_gates_88 at hf
    refine w_blk bX12_gates_88 [.ref 72, .retAddr 0, .int v2, .int v3, .retAddr 0] [.int v3] (sm_hp m) [] rfl (sm_on) ?_
    refine w_if_eq (tgt := 145) dX12_gates_89 rfl (fun hc => ?_) (fun hc => ?_)
    · replace hf := sm_ift hc hf
      refine w_blk bX12_gates_145 [.ref 72, .retAddr 0, .int v2, .int v3, .retAddr 0] [.int v2] (sm_hp m) [] rfl (sm_on) ?_
      obtain rfl := Option.some.inj hf
      exact w_reti dX12_gates_146 rfl rfl
    · replace hf := sm_iff hc hf
      refine w_blk bX12_gates_92 [.ref 72, .retAddr 0, .int v2, .int v3, .int (0 : Int32)] [] (sm_hp m) [] rfl (sm_on) ?_
      exact tX12_gates_95 (fX12_gates_88 n) ih sm_fu v2 v3 (0 : Int32) m r hf
set_option maxRecDepth 10000 in
theorem tX12_gates_46 {l : Launch} {al : Bool} : ∀ (n : Nat) (v1 : Int32) (v2 : Int32) (v3 : Int32) (m : sm_S) (r : Int32 × sm_S), fX12_gates_46 n v1 v2 v3 m = some r → sm_W l mX12_gates 5 al (some (.int r.1), sm_hp r.2) 46 [.ref 72, .int v1, .int v2, .int v3, .retAddr 0] [] (sm_hp m) := by
  intro n
  induction n with
  | zero =>
    intro v1 v2 v3 m r hf
    unfold fX12_gates_46 at hf
    cases hf
  | succ n ih =>
    intro v1 v2 v3 m r hf
    unfold fX12_gates_46 at hf
    refine w_blk bX12_gates_46 [.ref 72, .int v1, .int v2, .int v3, .retAddr 0] [.int (m.1 72 3), .int v3] (sm_hp m) [] rfl (sm_on) ?_
    refine w_icmp_ge (tgt := 78) dX12_gates_51 rfl (fun hc => ?_) (fun hc => ?_)
    · replace hf := sm_ift hc hf
      refine w_blk bX12_gates_78 [.ref 72, .int v1, .int v2, .int (m.1 72 14), .retAddr 0] [] (sm_hp (sm_w1 m 72 1 (0 : Int32))) [] rfl (sm_on) ?_
      refine w_wk [true, false, true, true, false] ?_
      exact tX12_gates_88 sm_fu v2 (m.1 72 14) (sm_w1 m 72 1 (0 : Int32)) r hf
    · replace hf := sm_iff hc hf
      refine w_blk bX12_gates_54 [.ref 72, .int v1, .int v2, .int v3, .retAddr 0] [.int v1, .int v3, .int v3, .ref 100] (sm_hp m) [] rfl (sm_on) ?_
      refine w_icmp_ne (tgt := 68) dX12_gates_61 rfl (fun hc => ?_) (fun hc => ?_)
      · replace hf := sm_iff hc hf
        refine w_blk bX12_gates_68 [.ref 72, .int v1, .int v2, .int v3, .retAddr 0] [.int (1000000 : Int32), .int v3, .ref 100] (sm_hp m) [] rfl (sm_on) ?_
        replace hf := sm_ck hf
        obtain ⟨q14, hf⟩ := hf
        refine w_blk bX12_gates_71 [.ref 72, .int v1, .int v2, .int (v3 + (1 : Int32)), .retAddr 0] [] (sm_hp (sm_w1 m 100 (v3).toNatClampNeg (1000000 : Int32))) [(v3, 10)] rfl (sm_oc q14 (sm_on)) ?_
        refine w_goto (tgt := 46) dX12_gates_75 rfl ?_
        exact ih v1 v2 (v3 + (1 : Int32)) (sm_w1 m 100 (v3).toNatClampNeg (1000000 : Int32)) r hf
      · replace hf := sm_ift hc hf
        refine w_blk bX12_gates_64 [.ref 72, .int v1, .int v2, .int v3, .retAddr 0] [.int (0 : Int32), .int v3, .ref 100] (sm_hp m) [] rfl (sm_on) ?_
        refine w_goto (tgt := 71) dX12_gates_65 rfl ?_
        replace hf := sm_ck hf
        obtain ⟨q15, hf⟩ := hf
        refine w_blk bX12_gates_71 [.ref 72, .int v1, .int v2, .int (v3 + (1 : Int32)), .retAddr 0] [] (sm_hp (sm_w1 m 100 (v3).toNatClampNeg (0 : Int32))) [(v3, 10)] rfl (sm_oc q15 (sm_on)) ?_
        refine w_goto (tgt := 46) dX12_gates_75 rfl ?_
        exact ih v1 v2 (v3 + (1 : Int32)) (sm_w1 m 100 (v3).toNatClampNeg (0 : Int32)) r hf
set_option maxRecDepth 10000 in
theorem tX12_gates {l : Launch} {al : Bool} (x1 : Int32) (m : sm_S) (r : Int32 × sm_S) (hf : fX12_gates x1 m = some r) : sm_Rt l mX12_gates 5 0 0 al al [.ref 72, .int x1] (sm_hp m) (some (.int r.1), sm_hp r.2) := by
  refine sm_Rt.ofW (L := [.ref 72, .int x1, .retAddr 0, .retAddr 0, .retAddr 0]) (by decide) (Nat.le_of_ble_eq_true rfl) rfl ?_
  unfold fX12_gates at hf
  refine w_blk bX12_gates_0 [.ref 72, .int x1, .retAddr 0, .retAddr 0, .retAddr 0] [.int x1, .ref 72] (sm_hp (sm_w1 m 72 0 (0 : Int32))) [] rfl (sm_on) ?_
  replace hf := sm_bd hf
  obtain ⟨r2, q1, hf⟩ := hf
  refine w_callV [.int x1] [] (tX12_isCorner x1 (sm_w1 m 72 0 (0 : Int32)) r2 q1) (cvX12_157 rfl) dX12_gates_7 rfl rfl (by decide) (by decide) rfl (Nat.le_of_ble_eq_true rfl) ?_
  show sm_W _ _ _ _ _ 10 [.ref 72, .int x1, .retAddr 0, .retAddr 0, .retAddr 0] [.int r2] (sm_hp (sm_w1 m 72 0 (0 : Int32)))
  refine w_if_ne (tgt := 15) dX12_gates_10 rfl (fun hc => ?_) (fun hc => ?_)
  · replace hf := sm_iff hc hf
    refine w_blk bX12_gates_15 [.ref 72, .int x1, .retAddr 0, .retAddr 0, .retAddr 0] [.ref 72] (sm_hp (sm_w1 m 72 0 (0 : Int32))) [] rfl (sm_on) ?_
    replace hf := sm_bd hf
    obtain ⟨m4, q3, hf⟩ := hf
    refine w_callV [] [] (tX12_laysOutGates (sm_w1 m 72 0 (0 : Int32)) m4 q3) (cvX12_359 rfl) dX12_gates_16 rfl rfl (by decide) (by decide) rfl (Nat.le_of_ble_eq_true rfl) ?_
    show sm_W _ _ _ _ _ 19 [.ref 72, .int x1, .retAddr 0, .retAddr 0, .retAddr 0] [] (sm_hp m4)
    replace hf := sm_ck hf
    obtain ⟨q5, hf⟩ := hf
    refine w_blk bX12_gates_19 [.ref 72, .int x1, .int (m4.1 98 (((10 : Int32) * (m4.1 72 14)) + x1).toNatClampNeg), .retAddr 0, .retAddr 0] [.int (1000000 : Int32), .int (m4.1 98 (((10 : Int32) * (m4.1 72 14)) + x1).toNatClampNeg)] (sm_hp m4) [((((10 : Int32) * (m4.1 72 14)) + x1), 163840)] rfl (sm_oc q5 (sm_on)) ?_
    refine w_icmp_lt (tgt := 44) dX12_gates_38 rfl (fun hc => ?_) (fun hc => ?_)
    · replace hf := sm_ift hc hf
      refine w_blk bX12_gates_44 [.ref 72, .int x1, .int (m4.1 98 (((10 : Int32) * (m4.1 72 14)) + x1).toNatClampNeg), .int (0 : Int32), .retAddr 0] [] (sm_hp m4) [] rfl (sm_on) ?_
      exact tX12_gates_46 sm_fu x1 (m4.1 98 (((10 : Int32) * (m4.1 72 14)) + x1).toNatClampNeg) (0 : Int32) m4 r hf
    · replace hf := sm_iff hc hf
      refine w_blk bX12_gates_41 [.ref 72, .int x1, .int (m4.1 98 (((10 : Int32) * (m4.1 72 14)) + x1).toNatClampNeg), .retAddr 0, .retAddr 0] [.int (-2 : Int32)] (sm_hp m4) [] rfl (sm_on) ?_
      obtain rfl := Option.some.inj hf
      exact w_reti dX12_gates_43 rfl rfl
  · replace hf := sm_ift hc hf
    refine w_blk bX12_gates_13 [.ref 72, .int x1, .retAddr 0, .retAddr 0, .retAddr 0] [.int (-1 : Int32)] (sm_hp (sm_w1 m 72 0 (0 : Int32))) [] rfl (sm_on) ?_
    obtain rfl := Option.some.inj hf
    exact w_reti dX12_gates_14 rfl rfl
set_option maxRecDepth 10000 in
theorem tX12_heard {l : Launch} {al : Bool} (x1 : Int32) (x2 : Int32) (m : sm_S) (r : Int32 × sm_S) (hf : fX12_heard x1 x2 m = some r) : sm_Rt l mX12_heard 3 0 0 al al [.ref 72, .int x1, .int x2] (sm_hp m) (some (.int r.1), sm_hp r.2) := by
  refine sm_Rt.ofW (L := [.ref 72, .int x1, .int x2]) (by decide) (Nat.le_of_ble_eq_true rfl) rfl ?_
  unfold fX12_heard at hf
  refine w_blk bX12_heard_0 [.ref 72, .int x1, .int x2] [.int x1, .ref 72] (sm_hp (sm_w1 m 72 0 (0 : Int32))) [] rfl (sm_on) ?_
  replace hf := sm_bd hf
  obtain ⟨r2, q1, hf⟩ := hf
  refine w_callV [.int x1] [] (tX12_isHedge x1 (sm_w1 m 72 0 (0 : Int32)) r2 q1) (cvX12_135 rfl) dX12_heard_7 rfl rfl (by decide) (by decide) rfl (Nat.le_of_ble_eq_true rfl) ?_
  show sm_W _ _ _ _ _ 10 [.ref 72, .int x1, .int x2] [.int r2] (sm_hp (sm_w1 m 72 0 (0 : Int32)))
  refine w_if_eq (tgt := 34) dX12_heard_10 rfl (fun hc => ?_) (fun hc => ?_)
  · replace hf := sm_ift hc hf
    refine w_blk bX12_heard_34 [.ref 72, .int x1, .int x2] [.int (-1 : Int32)] (sm_hp (sm_w1 m 72 0 (0 : Int32))) [] rfl (sm_on) ?_
    obtain rfl := Option.some.inj hf
    exact w_reti dX12_heard_35 rfl rfl
  · replace hf := sm_iff hc hf
    refine w_blk bX12_heard_13 [.ref 72, .int x1, .int x2] [.long (6 : Int64), .long (0 : Int64), .long (x2).toInt64] (sm_hp (sm_w1 m 72 0 (0 : Int32))) [] rfl (sm_on) ?_
    replace hf := sm_bd hf
    obtain ⟨r4, q3, hf⟩ := hf
    refine w_callS [.long (x2).toInt64, .long (0 : Int64), .long (6 : Int64)] [] (tX12_in (x2).toInt64 (0 : Int64) (6 : Int64) (sm_w1 m 72 0 (0 : Int32)) r4 q3) (csX12_17 rfl) dX12_heard_19 rfl rfl (by decide) (by decide) (Nat.le_of_ble_eq_true rfl) ?_
    show sm_W _ _ _ _ _ 22 [.ref 72, .int x1, .int x2] [.int r4] (sm_hp (sm_w1 m 72 0 (0 : Int32)))
    refine w_if_eq (tgt := 34) dX12_heard_22 rfl (fun hc => ?_) (fun hc => ?_)
    · replace hf := sm_ift hc hf
      refine w_blk bX12_heard_34 [.ref 72, .int x1, .int x2] [.int (-1 : Int32)] (sm_hp (sm_w1 m 72 0 (0 : Int32))) [] rfl (sm_on) ?_
      obtain rfl := Option.some.inj hf
      exact w_reti dX12_heard_35 rfl rfl
    · replace hf := sm_iff hc hf
      refine w_blk bX12_heard_25 [.ref 72, .int x1, .int x2] [.int (12 : Int32), .int (m.1 72 51)] (sm_hp (sm_w1 m 72 0 (0 : Int32))) [] rfl (sm_on) ?_
      refine w_icmp_ne (tgt := 36) dX12_heard_31 rfl (fun hc => ?_) (fun hc => ?_)
      · replace hf := sm_iff hc hf
        replace hf := sm_ck hf
        obtain ⟨q5, hf⟩ := hf
        replace hf := sm_ck hf
        obtain ⟨q6, hf⟩ := hf
        refine w_blk bX12_heard_36 [.ref 72, .int x1, .int x2] [.int ((m.1 72 51) + (1 : Int32))] (sm_hp (sm_w1 (sm_w1 (sm_w1 (sm_w1 m 72 0 (0 : Int32)) 102 (m.1 72 51).toNatClampNeg x1) 103 (m.1 72 51).toNatClampNeg x2) 72 51 ((m.1 72 51) + (1 : Int32)))) [((m.1 72 51), 12), ((m.1 72 51), 12)] rfl (sm_oc q5 (sm_oc q6 (sm_on))) ?_
        obtain rfl := Option.some.inj hf
        exact w_reti dX12_heard_70 rfl rfl
      · replace hf := sm_ift hc hf
        refine w_blk bX12_heard_34 [.ref 72, .int x1, .int x2] [.int (-1 : Int32)] (sm_hp (sm_w1 m 72 0 (0 : Int32))) [] rfl (sm_on) ?_
        obtain rfl := Option.some.inj hf
        exact w_reti dX12_heard_35 rfl rfl
set_option maxRecDepth 10000 in
theorem tX12_forget {l : Launch} {al : Bool} (m : sm_S) (r : Int32 × sm_S) (hf : fX12_forget m = some r) : sm_Rt l mX12_forget 1 0 0 al al [.ref 72] (sm_hp m) (some (.int r.1), sm_hp r.2) := by
  refine sm_Rt.ofW (L := [.ref 72]) (by decide) (Nat.le_of_ble_eq_true rfl) rfl ?_
  unfold fX12_forget at hf
  refine w_blk bX12_forget_0 [.ref 72] [.int (m.1 72 51)] (sm_hp (sm_w1 m 72 0 (0 : Int32))) [] rfl (sm_on) ?_
  refine w_if_ne (tgt := 14) dX12_forget_9 rfl (fun hc => ?_) (fun hc => ?_)
  · replace hf := sm_iff hc hf
    refine w_blk bX12_forget_14 [.ref 72] [.int ((m.1 72 51) - (1 : Int32))] (sm_hp (sm_w1 (sm_w1 m 72 0 (0 : Int32)) 72 51 ((m.1 72 51) - (1 : Int32)))) [] rfl (sm_on) ?_
    obtain rfl := Option.some.inj hf
    exact w_reti dX12_forget_28 rfl rfl
  · replace hf := sm_ift hc hf
    refine w_blk bX12_forget_12 [.ref 72] [.int (-1 : Int32)] (sm_hp (sm_w1 m 72 0 (0 : Int32))) [] rfl (sm_on) ?_
    obtain rfl := Option.some.inj hf
    exact w_reti dX12_forget_13 rfl rfl
set_option maxRecDepth 10000 in
theorem tX12_cowsOf {l : Launch} {al : Bool} (x1 : Int32) (x2 : Int32) (m : sm_S) (r : Int32) (hf : fX12_cowsOf x1 x2 m = some r) : sm_Rt l mX12_cowsOf 1 0 0 al al [.int x1, .int x2] (sm_hp m) (some (.int r), sm_hp m) := by
  refine sm_Rt.ofW (L := [.int x1, .int x2]) (by decide) (Nat.le_of_ble_eq_true rfl) rfl ?_
  unfold fX12_cowsOf at hf
  refine w_blk bX12_cowsOf_0 [.int x1, .int x2] [.int ((x1 >>> (((2 : Int32) * ((5 : Int32) - x2)) &&& 31)) &&& (3 : Int32))] (sm_hp m) [] rfl (sm_on) ?_
  obtain rfl := Option.some.inj hf
  exact w_reti dX12_cowsOf_9 rfl rfl
set_option maxRecDepth 10000 in
theorem tX12_digitsOf_4 {l : Launch} {al : Bool} : ∀ (n : Nat) (v0 : Int32) (v1 : Int32) (v2 : Int32) (m : sm_S) (r : Int32), fX12_digitsOf_4 n v0 v1 v2 m = some r → sm_W l mX12_digitsOf 2 al (some (.int r), sm_hp m) 4 [.int v0, .int v1, .int v2] [] (sm_hp m) := by
  intro n
  induction n with
  | zero =>
    intro v0 v1 v2 m r hf
    unfold fX12_digitsOf_4 at hf
    cases hf
  | succ n ih =>
    intro v0 v1 v2 m r hf
    unfold fX12_digitsOf_4 at hf
    refine w_blk bX12_digitsOf_4 [.int v0, .int v1, .int v2] [.int (6 : Int32), .int v2] (sm_hp m) [] rfl (sm_on) ?_
    refine w_icmp_ge (tgt := 27) dX12_digitsOf_7 rfl (fun hc => ?_) (fun hc => ?_)
    · replace hf := sm_ift hc hf
      refine w_blk bX12_digitsOf_27 [.int v0, .int v1, .int v2] [.int v1] (sm_hp m) [] rfl (sm_on) ?_
      obtain rfl := Option.some.inj hf
      exact w_reti dX12_digitsOf_28 rfl rfl
    · replace hf := sm_iff hc hf
      refine w_blk bX12_digitsOf_10 [.int v0, .int v1, .int v2] [.int v2, .int v0, .int ((10 : Int32) * v1)] (sm_hp m) [] rfl (sm_on) ?_
      replace hf := sm_bd hf
      obtain ⟨r2, q1, hf⟩ := hf
      refine w_callS [.int v0, .int v2] [.int ((10 : Int32) * v1)] (tX12_cowsOf v0 v2 m r2 q1) (csX12_390 rfl) dX12_digitsOf_16 rfl rfl (by decide) (by decide) (Nat.le_of_ble_eq_true rfl) ?_
      show sm_W _ _ _ _ _ 19 [.int v0, .int v1, .int v2] [.int r2, .int ((10 : Int32) * v1)] (sm_hp m)
      refine w_blk bX12_digitsOf_19 [.int v0, .int (((10 : Int32) * v1) + r2), .int (v2 + (1 : Int32))] [] (sm_hp m) [] rfl (sm_on) ?_
      refine w_goto (tgt := 4) dX12_digitsOf_24 rfl ?_
      exact ih v0 (((10 : Int32) * v1) + r2) (v2 + (1 : Int32)) m r hf
set_option maxRecDepth 10000 in
theorem tX12_digitsOf {l : Launch} {al : Bool} (x1 : Int32) (m : sm_S) (r : Int32) (hf : fX12_digitsOf x1 m = some r) : sm_Rt l mX12_digitsOf 2 0 0 al al [.int x1] (sm_hp m) (some (.int r), sm_hp m) := by
  refine sm_Rt.ofW (L := [.int x1, .retAddr 0, .retAddr 0]) (by decide) (Nat.le_of_ble_eq_true rfl) rfl ?_
  unfold fX12_digitsOf at hf
  refine w_blk bX12_digitsOf_0 [.int x1, .int (0 : Int32), .int (0 : Int32)] [] (sm_hp m) [] rfl (sm_on) ?_
  exact tX12_digitsOf_4 sm_fu x1 (0 : Int32) (0 : Int32) m r hf
set_option maxRecDepth 10000 in
theorem tX12_over {l : Launch} {al : Bool} (x1 : Int32) (x2 : Int32) (m : sm_S) (r : Int32) (hf : fX12_over x1 x2 m = some r) : sm_Rt l mX12_over 2 0 0 al al [.ref 72, .int x1, .int x2] (sm_hp m) (some (.int r), sm_hp m) := by
  refine sm_Rt.ofW (L := [.ref 72, .int x1, .int x2]) (by decide) (Nat.le_of_ble_eq_true rfl) rfl ?_
  unfold fX12_over at hf
  replace hf := sm_ck hf
  obtain ⟨q1, hf⟩ := hf
  refine w_blk bX12_over_0 [.ref 72, .int x1, .int x2] [.int (m.1 79 (x2).toNatClampNeg), .int x1] (sm_hp m) [(x2, 14)] rfl (sm_oc q1 (sm_on)) ?_
  replace hf := sm_bd hf
  obtain ⟨r3, q2, hf⟩ := hf
  refine w_callS [.int x1, .int (m.1 79 (x2).toNatClampNeg)] [] (tX12_cowsOf x1 (m.1 79 (x2).toNatClampNeg) m r3 q2) (csX12_390 rfl) dX12_over_7 rfl rfl (by decide) (by decide) (Nat.le_of_ble_eq_true rfl) ?_
  show sm_W _ _ _ _ _ 10 [.ref 72, .int x1, .int x2] [.int r3] (sm_hp m)
  replace hf := sm_ck hf
  obtain ⟨q4, hf⟩ := hf
  refine w_blk bX12_over_10 [.ref 72, .int x1, .int x2] [.int (m.1 80 (x2).toNatClampNeg), .int x1, .int r3] (sm_hp m) [(x2, 14)] rfl (sm_oc q4 (sm_on)) ?_
  replace hf := sm_bd hf
  obtain ⟨r6, q5, hf⟩ := hf
  refine w_callS [.int x1, .int (m.1 80 (x2).toNatClampNeg)] [.int r3] (tX12_cowsOf x1 (m.1 80 (x2).toNatClampNeg) m r6 q5) (csX12_390 rfl) dX12_over_17 rfl rfl (by decide) (by decide) (Nat.le_of_ble_eq_true rfl) ?_
  show sm_W _ _ _ _ _ 20 [.ref 72, .int x1, .int x2] [.int r6, .int r3] (sm_hp m)
  refine w_blk bX12_over_20 [.ref 72, .int x1, .int x2] [.int (r3 + r6)] (sm_hp m) [] rfl (sm_on) ?_
  obtain rfl := Option.some.inj hf
  exact w_reti dX12_over_21 rfl rfl
set_option maxRecDepth 10000 in
theorem tX12_wrongOf_4 {l : Launch} {al : Bool} : ∀ (n : Nat) (v1 : Int32) (v2 : Int32) (v3 : Int32) (m : sm_S) (r : Int32), fX12_wrongOf_4 n v1 v2 v3 m = some r → sm_W l mX12_wrongOf 3 al (some (.int r), sm_hp m) 4 [.ref 72, .int v1, .int v2, .int v3] [] (sm_hp m) := by
  intro n
  induction n with
  | zero =>
    intro v1 v2 v3 m r hf
    unfold fX12_wrongOf_4 at hf
    cases hf
  | succ n ih =>
    intro v1 v2 v3 m r hf
    unfold fX12_wrongOf_4 at hf
    refine w_blk bX12_wrongOf_4 [.ref 72, .int v1, .int v2, .int v3] [.int (m.1 72 51), .int v3] (sm_hp m) [] rfl (sm_on) ?_
    refine w_icmp_ge (tgt := 48) dX12_wrongOf_9 rfl (fun hc => ?_) (fun hc => ?_)
    · replace hf := sm_ift hc hf
      refine w_blk bX12_wrongOf_48 [.ref 72, .int v1, .int v2, .int v3] [.int v2] (sm_hp m) [] rfl (sm_on) ?_
      obtain rfl := Option.some.inj hf
      exact w_reti dX12_wrongOf_49 rfl rfl
    · replace hf := sm_iff hc hf
      replace hf := sm_ck hf
      obtain ⟨q1, hf⟩ := hf
      refine w_blk bX12_wrongOf_12 [.ref 72, .int v1, .int v2, .int v3] [.int (m.1 102 (v3).toNatClampNeg), .int v1, .ref 72, .int v2] (sm_hp m) [(v3, 12)] rfl (sm_oc q1 (sm_on)) ?_
      replace hf := sm_bd hf
      obtain ⟨r3, q2, hf⟩ := hf
      refine w_callV [.int v1, .int (m.1 102 (v3).toNatClampNeg)] [.int v2] (tX12_over v1 (m.1 102 (v3).toNatClampNeg) m r3 q2) (cvX12_393 rfl) dX12_wrongOf_21 rfl rfl (by decide) (by decide) rfl (Nat.le_of_ble_eq_true rfl) ?_
      show sm_W _ _ _ _ _ 24 [.ref 72, .int v1, .int v2, .int v3] [.int r3, .int v2] (sm_hp m)
      replace hf := sm_ck hf
      obtain ⟨q4, hf⟩ := hf
      refine w_blk bX12_wrongOf_24 [.ref 72, .int v1, .int v2, .int v3] [.int (m.1 103 (v3).toNatClampNeg), .int r3, .int v2] (sm_hp m) [(v3, 12)] rfl (sm_oc q4 (sm_on)) ?_
      refine w_icmp_eq (tgt := 39) dX12_wrongOf_30 rfl (fun hc => ?_) (fun hc => ?_)
      · replace hf := sm_ift hc hf
        refine w_blk bX12_wrongOf_39 [.ref 72, .int v1, .int v2, .int v3] [.int (0 : Int32), .int v2] (sm_hp m) [] rfl (sm_on) ?_
        refine w_blk bX12_wrongOf_40 [.ref 72, .int v1, .int (v2 ||| (0 : Int32)), .int (v3 + (1 : Int32))] [] (sm_hp m) [] rfl (sm_on) ?_
        refine w_goto (tgt := 4) dX12_wrongOf_45 rfl ?_
        exact ih v1 (v2 ||| (0 : Int32)) (v3 + (1 : Int32)) m r hf
      · replace hf := sm_iff hc hf
        refine w_blk bX12_wrongOf_33 [.ref 72, .int v1, .int v2, .int v3] [.int ((1 : Int32) <<< (v3 &&& 31)), .int v2] (sm_hp m) [] rfl (sm_on) ?_
        refine w_goto (tgt := 40) dX12_wrongOf_36 rfl ?_
        refine w_blk bX12_wrongOf_40 [.ref 72, .int v1, .int (v2 ||| ((1 : Int32) <<< (v3 &&& 31))), .int (v3 + (1 : Int32))] [] (sm_hp m) [] rfl (sm_on) ?_
        refine w_goto (tgt := 4) dX12_wrongOf_45 rfl ?_
        exact ih v1 (v2 ||| ((1 : Int32) <<< (v3 &&& 31))) (v3 + (1 : Int32)) m r hf
set_option maxRecDepth 10000 in
theorem tX12_wrongOf {l : Launch} {al : Bool} (x1 : Int32) (m : sm_S) (r : Int32) (hf : fX12_wrongOf x1 m = some r) : sm_Rt l mX12_wrongOf 3 0 0 al al [.ref 72, .int x1] (sm_hp m) (some (.int r), sm_hp m) := by
  refine sm_Rt.ofW (L := [.ref 72, .int x1, .retAddr 0, .retAddr 0]) (by decide) (Nat.le_of_ble_eq_true rfl) rfl ?_
  unfold fX12_wrongOf at hf
  refine w_blk bX12_wrongOf_0 [.ref 72, .int x1, .int (0 : Int32), .int (0 : Int32)] [] (sm_hp m) [] rfl (sm_on) ?_
  exact tX12_wrongOf_4 sm_fu x1 (0 : Int32) (0 : Int32) m r hf
set_option maxRecDepth 10000 in
theorem tX12_lands_11 {l : Launch} {al : Bool} : ∀ (n : Nat) (v1 : Int32) (v2 : Int32) (v3 : Int32) (m : sm_S) (r : Int32 × sm_S), fX12_lands_11 n v1 v2 v3 m = some r → sm_W l mX12_lands 4 al (some (.int r.1), sm_hp r.2) 11 [.ref 72, .int v1, .int v2, .int v3] [] (sm_hp m) := by
  intro n
  induction n with
  | zero =>
    intro v1 v2 v3 m r hf
    unfold fX12_lands_11 at hf
    cases hf
  | succ n ih =>
    intro v1 v2 v3 m r hf
    unfold fX12_lands_11 at hf
    refine w_blk bX12_lands_11 [.ref 72, .int v1, .int v2, .int v3] [.int (4096 : Int32), .int v3] (sm_hp m) [] rfl (sm_on) ?_
    refine w_icmp_ge (tgt := 45) dX12_lands_15 rfl (fun hc => ?_) (fun hc => ?_)
    · replace hf := sm_ift hc hf
      refine w_blk bX12_lands_45 [.ref 72, .int v1, .int v2, .int v3] [.int v1] (sm_hp (sm_w1 m 72 1 (0 : Int32))) [] rfl (sm_on) ?_
      refine w_if_le (tgt := 62) dX12_lands_51 rfl (fun hc => ?_) (fun hc => ?_)
      · replace hf := sm_ift hc hf
        refine w_blk bX12_lands_62 [.ref 72, .int v1, .int v2, .int v3] [.int v1] (sm_hp (sm_w1 m 72 1 (0 : Int32))) [] rfl (sm_on) ?_
        obtain rfl := Option.some.inj hf
        exact w_reti dX12_lands_63 rfl rfl
      · replace hf := sm_iff hc hf
        refine w_blk bX12_lands_54 [.ref 72, .int v1, .int v2, .int v3] [.int v2, .ref 72] (sm_hp (sm_w1 m 72 1 (0 : Int32))) [] rfl (sm_on) ?_
        replace hf := sm_bd hf
        obtain ⟨r2, q1, hf⟩ := hf
        refine w_callS [.int v2] [.ref 72] (tX12_digitsOf v2 (sm_w1 m 72 1 (0 : Int32)) r2 q1) (csX12_399 rfl) dX12_lands_56 rfl rfl (by decide) (by decide) (Nat.le_of_ble_eq_true rfl) ?_
        show sm_W _ _ _ _ _ 59 [.ref 72, .int v1, .int v2, .int v3] [.int r2, .ref 72] (sm_hp (sm_w1 m 72 1 (0 : Int32)))
        replace hf := sm_bd hf
        obtain ⟨m4, q3, hf⟩ := hf
        refine w_callV [.int r2] [] (tX12_enters r2 (sm_w1 m 72 1 (0 : Int32)) m4 q3) (cvX12_229 rfl) dX12_lands_59 rfl rfl (by decide) (by decide) rfl (Nat.le_of_ble_eq_true rfl) ?_
        show sm_W _ _ _ _ _ 62 [.ref 72, .int v1, .int v2, .int v3] [] (sm_hp m4)
        refine w_blk bX12_lands_62 [.ref 72, .int v1, .int v2, .int v3] [.int v1] (sm_hp m4) [] rfl (sm_on) ?_
        obtain rfl := Option.some.inj hf
        exact w_reti dX12_lands_63 rfl rfl
    · replace hf := sm_iff hc hf
      refine w_blk bX12_lands_18 [.ref 72, .int v1, .int v2, .int v3] [.int v3, .ref 72] (sm_hp m) [] rfl (sm_on) ?_
      replace hf := sm_bd hf
      obtain ⟨r6, q5, hf⟩ := hf
      refine w_callV [.int v3] [] (tX12_wrongOf v3 m r6 q5) (cvX12_396 rfl) dX12_lands_20 rfl rfl (by decide) (by decide) rfl (Nat.le_of_ble_eq_true rfl) ?_
      show sm_W _ _ _ _ _ 23 [.ref 72, .int v1, .int v2, .int v3] [.int r6] (sm_hp m)
      refine w_if_ne (tgt := 39) dX12_lands_23 rfl (fun hc => ?_) (fun hc => ?_)
      · replace hf := sm_iff hc hf
        refine w_blk bX12_lands_39 [.ref 72, .int v1, .int v2, .int (v3 + (1 : Int32))] [] (sm_hp m) [] rfl (sm_on) ?_
        refine w_goto (tgt := 11) dX12_lands_42 rfl ?_
        exact ih v1 v2 (v3 + (1 : Int32)) m r hf
      · replace hf := sm_ift hc hf
        refine w_blk bX12_lands_26 [.ref 72, .int v1, .int v2, .int v3] [.int v1] (sm_hp m) [] rfl (sm_on) ?_
        refine w_if_ne (tgt := 34) dX12_lands_27 rfl (fun hc => ?_) (fun hc => ?_)
        · replace hf := sm_iff hc hf
          refine w_blk bX12_lands_34 [.ref 72, .int v1, .int v2, .int v3] [.int v2] (sm_hp m) [] rfl (sm_on) ?_
          refine w_blk bX12_lands_35 [.ref 72, .int (v1 + (1 : Int32)), .int v2, .int v3] [] (sm_hp m) [] rfl (sm_on) ?_
          refine w_blk bX12_lands_39 [.ref 72, .int (v1 + (1 : Int32)), .int v2, .int (v3 + (1 : Int32))] [] (sm_hp m) [] rfl (sm_on) ?_
          refine w_goto (tgt := 11) dX12_lands_42 rfl ?_
          exact ih (v1 + (1 : Int32)) v2 (v3 + (1 : Int32)) m r hf
        · replace hf := sm_ift hc hf
          refine w_blk bX12_lands_30 [.ref 72, .int v1, .int v2, .int v3] [.int v3] (sm_hp m) [] rfl (sm_on) ?_
          refine w_goto (tgt := 35) dX12_lands_31 rfl ?_
          refine w_blk bX12_lands_35 [.ref 72, .int (v1 + (1 : Int32)), .int v3, .int v3] [] (sm_hp m) [] rfl (sm_on) ?_
          refine w_blk bX12_lands_39 [.ref 72, .int (v1 + (1 : Int32)), .int v3, .int (v3 + (1 : Int32))] [] (sm_hp m) [] rfl (sm_on) ?_
          refine w_goto (tgt := 11) dX12_lands_42 rfl ?_
          exact ih (v1 + (1 : Int32)) v3 (v3 + (1 : Int32)) m r hf
set_option maxRecDepth 10000 in
theorem tX12_lands {l : Launch} {al : Bool} (m : sm_S) (r : Int32 × sm_S) (hf : fX12_lands m = some r) : sm_Rt l mX12_lands 4 0 0 al al [.ref 72] (sm_hp m) (some (.int r.1), sm_hp r.2) := by
  refine sm_Rt.ofW (L := [.ref 72, .retAddr 0, .retAddr 0, .retAddr 0]) (by decide) (Nat.le_of_ble_eq_true rfl) rfl ?_
  unfold fX12_lands at hf
  refine w_blk bX12_lands_0 [.ref 72, .int (0 : Int32), .int (0 : Int32), .int (0 : Int32)] [] (sm_hp (sm_w1 m 72 0 (0 : Int32))) [] rfl (sm_on) ?_
  exact tX12_lands_11 sm_fu (0 : Int32) (0 : Int32) (0 : Int32) (sm_w1 m 72 0 (0 : Int32)) r hf
set_option maxRecDepth 10000 in
theorem tX12_sure_103 {l : Launch} {al : Bool} : ∀ (n : Nat) (v1 : Int32) (v2 : Int32) (v3 : Int32) (v4 : Int32) (m : sm_S) (r : Int32 × sm_S), fX12_sure_103 n v1 v2 v3 v4 m = some r → sm_W l mX12_sure 4 al (some (.int r.1), sm_hp r.2) 103 [.ref 72, .int v1, .int v2, .int v3, .int v4] [] (sm_hp m) := by
  intro n
  induction n with
  | zero =>
    intro v1 v2 v3 v4 m r hf
    unfold fX12_sure_103 at hf
    cases hf
  | succ n ih =>
    intro v1 v2 v3 v4 m r hf
    unfold fX12_sure_103 at hf
    refine w_blk bX12_sure_103 [.ref 72, .int v1, .int v2, .int v3, .int v4] [.int (6 : Int32), .int v4] (sm_hp m) [] rfl (sm_on) ?_
    refine w_icmp_ge (tgt := 142) dX12_sure_107 rfl (fun hc => ?_) (fun hc => ?_)
    · replace hf := sm_ift hc hf
      refine w_blk bX12_sure_142 [.ref 72, .int v1, .int v2, .int v3, .int v4] [.int v3] (sm_hp m) [] rfl (sm_on) ?_
      obtain rfl := Option.some.inj hf
      exact w_reti dX12_sure_143 rfl rfl
    · replace hf := sm_iff hc hf
      refine w_blk bX12_sure_110 [.ref 72, .int v1, .int v2, .int v3, .int v4] [.int v4, .int v2] (sm_hp m) [] rfl (sm_on) ?_
      replace hf := sm_bd hf
      obtain ⟨r2, q1, hf⟩ := hf
      refine w_callS [.int v2, .int v4] [] (tX12_has v2 v4 m r2 q1) (csX12_144 rfl) dX12_sure_113 rfl rfl (by decide) (by decide) (Nat.le_of_ble_eq_true rfl) ?_
      show sm_W _ _ _ _ _ 116 [.ref 72, .int v1, .int v2, .int v3, .int v4] [.int r2] (sm_hp m)
      refine w_if_ne (tgt := 136) dX12_sure_116 rfl (fun hc => ?_) (fun hc => ?_)
      · replace hf := sm_iff hc hf
        refine w_blk bX12_sure_136 [.ref 72, .int v1, .int v2, .int v3, .int (v4 + (1 : Int32))] [] (sm_hp m) [] rfl (sm_on) ?_
        refine w_goto (tgt := 103) dX12_sure_139 rfl ?_
        exact ih v1 v2 v3 (v4 + (1 : Int32)) m r hf
      · replace hf := sm_ift hc hf
        refine w_blk bX12_sure_119 [.ref 72, .int v1, .int v2, .int (v3 ||| ((1 : Int32) <<< (v4 &&& 31))), .int v4] [.int v4, .int v1, .ref 72] (sm_hp m) [] rfl (sm_on) ?_
        replace hf := sm_bd hf
        obtain ⟨r4, q3, hf⟩ := hf
        refine w_callS [.int v1, .int v4] [.ref 72] (tX12_cowsOf v1 v4 m r4 q3) (csX12_390 rfl) dX12_sure_130 rfl rfl (by decide) (by decide) (Nat.le_of_ble_eq_true rfl) ?_
        show sm_W _ _ _ _ _ 133 [.ref 72, .int v1, .int v2, .int (v3 ||| ((1 : Int32) <<< (v4 &&& 31))), .int v4] [.int r4, .ref 72] (sm_hp m)
        replace hf := sm_bd hf
        obtain ⟨m6, q5, hf⟩ := hf
        refine w_callV [.int r4] [] (tX12_enters r4 m m6 q5) (cvX12_229 rfl) dX12_sure_133 rfl rfl (by decide) (by decide) rfl (Nat.le_of_ble_eq_true rfl) ?_
        show sm_W _ _ _ _ _ 136 [.ref 72, .int v1, .int v2, .int (v3 ||| ((1 : Int32) <<< (v4 &&& 31))), .int v4] [] (sm_hp m6)
        refine w_blk bX12_sure_136 [.ref 72, .int v1, .int v2, .int (v3 ||| ((1 : Int32) <<< (v4 &&& 31))), .int (v4 + (1 : Int32))] [] (sm_hp m6) [] rfl (sm_on) ?_
        refine w_goto (tgt := 103) dX12_sure_139 rfl ?_
        exact ih v1 v2 (v3 ||| ((1 : Int32) <<< (v4 &&& 31))) (v4 + (1 : Int32)) m6 r hf
set_option maxRecDepth 10000 in
theorem tX12_sure_42 {l : Launch} {al : Bool} (k11 : Int32 → Int32 → Int32 → sm_S → Option (Int32 × sm_S)) (hk11 : ∀ (v1 : Int32) (v2 : Int32) (v3 : Int32) (m : sm_S) (r : Int32 × sm_S), k11 v1 v2 v3 m = some r → sm_W l mX12_sure 4 al (some (.int r.1), sm_hp r.2) 11 [.ref 72, .int v1, .int v2, .int v3, .retAddr 0] [] (sm_hp m)) : ∀ (n : Nat) (v1 : Int32) (v2 : Int32) (v3 : Int32) (v4 : Int32) (m : sm_S) (r : Int32 × sm_S), fX12_sure_42 k11 n v1 v2 v3 v4 m = some r → sm_W l mX12_sure 4 al (some (.int r.1), sm_hp r.2) 42 [.ref 72, .int v1, .int v2, .int v3, .int v4] [] (sm_hp m) := by
  intro n
  induction n with
  | zero =>
    intro v1 v2 v3 v4 m r hf
    unfold fX12_sure_42 at hf
    cases hf
  | succ n ih =>
    intro v1 v2 v3 v4 m r hf
    unfold fX12_sure_42 at hf
    refine w_blk bX12_sure_42 [.ref 72, .int v1, .int v2, .int v3, .int v4] [.int (6 : Int32), .int v4] (sm_hp m) [] rfl (sm_on) ?_
    refine w_icmp_ge (tgt := 81) dX12_sure_46 rfl (fun hc => ?_) (fun hc => ?_)
    · replace hf := sm_ift hc hf
      refine w_blk bX12_sure_81 [.ref 72, .int v1, .int v2, .int (v3 + (1 : Int32)), .int v4] [] (sm_hp m) [] rfl (sm_on) ?_
      refine w_goto (tgt := 11) dX12_sure_84 rfl ?_
      refine w_wk [true, true, true, true, false] ?_
      exact hk11 v1 v2 (v3 + (1 : Int32)) m r hf
    · replace hf := sm_iff hc hf
      refine w_blk bX12_sure_49 [.ref 72, .int v1, .int v2, .int v3, .int v4] [.int v4, .int v3, .int v2] (sm_hp m) [] rfl (sm_on) ?_
      replace hf := sm_bd hf
      obtain ⟨r10, q9, hf⟩ := hf
      refine w_callS [.int v3, .int v4] [.int v2] (tX12_cowsOf v3 v4 m r10 q9) (csX12_390 rfl) dX12_sure_53 rfl rfl (by decide) (by decide) (Nat.le_of_ble_eq_true rfl) ?_
      show sm_W _ _ _ _ _ 56 [.ref 72, .int v1, .int v2, .int v3, .int v4] [.int r10, .int v2] (sm_hp m)
      refine w_blk bX12_sure_56 [.ref 72, .int v1, .int v2, .int v3, .int v4] [.int v4, .int v1, .int r10, .int v2] (sm_hp m) [] rfl (sm_on) ?_
      replace hf := sm_bd hf
      obtain ⟨r12, q11, hf⟩ := hf
      refine w_callS [.int v1, .int v4] [.int r10, .int v2] (tX12_cowsOf v1 v4 m r12 q11) (csX12_390 rfl) dX12_sure_59 rfl rfl (by decide) (by decide) (Nat.le_of_ble_eq_true rfl) ?_
      show sm_W _ _ _ _ _ 62 [.ref 72, .int v1, .int v2, .int v3, .int v4] [.int r12, .int r10, .int v2] (sm_hp m)
      refine w_icmp_eq (tgt := 72) dX12_sure_62 rfl (fun hc => ?_) (fun hc => ?_)
      · replace hf := sm_ift hc hf
        refine w_blk bX12_sure_72 [.ref 72, .int v1, .int v2, .int v3, .int v4] [.int (0 : Int32), .int v2] (sm_hp m) [] rfl (sm_on) ?_
        refine w_blk bX12_sure_73 [.ref 72, .int v1, .int (v2 ||| (0 : Int32)), .int v3, .int (v4 + (1 : Int32))] [] (sm_hp m) [] rfl (sm_on) ?_
        refine w_goto (tgt := 42) dX12_sure_78 rfl ?_
        exact ih v1 (v2 ||| (0 : Int32)) v3 (v4 + (1 : Int32)) m r hf
      · replace hf := sm_iff hc hf
        refine w_blk bX12_sure_65 [.ref 72, .int v1, .int v2, .int v3, .int v4] [.int ((1 : Int32) <<< (v4 &&& 31)), .int v2] (sm_hp m) [] rfl (sm_on) ?_
        refine w_goto (tgt := 73) dX12_sure_69 rfl ?_
        refine w_blk bX12_sure_73 [.ref 72, .int v1, .int (v2 ||| ((1 : Int32) <<< (v4 &&& 31))), .int v3, .int (v4 + (1 : Int32))] [] (sm_hp m) [] rfl (sm_on) ?_
        refine w_goto (tgt := 42) dX12_sure_78 rfl ?_
        exact ih v1 (v2 ||| ((1 : Int32) <<< (v4 &&& 31))) v3 (v4 + (1 : Int32)) m r hf
set_option maxRecDepth 10000 in
theorem tX12_sure_11 {l : Launch} {al : Bool} : ∀ (n : Nat) (v1 : Int32) (v2 : Int32) (v3 : Int32) (m : sm_S) (r : Int32 × sm_S), fX12_sure_11 n v1 v2 v3 m = some r → sm_W l mX12_sure 4 al (some (.int r.1), sm_hp r.2) 11 [.ref 72, .int v1, .int v2, .int v3, .retAddr 0] [] (sm_hp m) := by
  intro n
  induction n with
  | zero =>
    intro v1 v2 v3 m r hf
    unfold fX12_sure_11 at hf
    cases hf
  | succ n ih =>
    intro v1 v2 v3 m r hf
    unfold fX12_sure_11 at hf
    refine w_blk bX12_sure_11 [.ref 72, .int v1, .int v2, .int v3, .retAddr 0] [.int (4096 : Int32), .int v3] (sm_hp m) [] rfl (sm_on) ?_
    refine w_icmp_ge (tgt := 87) dX12_sure_15 rfl (fun hc => ?_) (fun hc => ?_)
    · replace hf := sm_ift hc hf
      refine w_blk bX12_sure_87 [.ref 72, .int v1, .int v2, .int v3, .retAddr 0] [.int v1] (sm_hp (sm_w1 m 72 1 (0 : Int32))) [] rfl (sm_on) ?_
      refine w_if_ge (tgt := 98) dX12_sure_93 rfl (fun hc => ?_) (fun hc => ?_)
      · replace hf := sm_ift hc hf
        refine w_blk bX12_sure_98 [.ref 72, .int v1, .int v2, .int (0 : Int32), .int (0 : Int32)] [] (sm_hp (sm_w1 m 72 1 (0 : Int32))) [] rfl (sm_on) ?_
        exact tX12_sure_103 sm_fu v1 v2 (0 : Int32) (0 : Int32) (sm_w1 m 72 1 (0 : Int32)) r hf
      · replace hf := sm_iff hc hf
        refine w_blk bX12_sure_96 [.ref 72, .int v1, .int v2, .int v3, .retAddr 0] [.int (0 : Int32)] (sm_hp (sm_w1 m 72 1 (0 : Int32))) [] rfl (sm_on) ?_
        obtain rfl := Option.some.inj hf
        exact w_reti dX12_sure_97 rfl rfl
    · replace hf := sm_iff hc hf
      refine w_blk bX12_sure_18 [.ref 72, .int v1, .int v2, .int v3, .retAddr 0] [.int v3, .ref 72] (sm_hp m) [] rfl (sm_on) ?_
      replace hf := sm_bd hf
      obtain ⟨r8, q7, hf⟩ := hf
      refine w_callV [.int v3] [] (tX12_wrongOf v3 m r8 q7) (cvX12_396 rfl) dX12_sure_20 rfl rfl (by decide) (by decide) rfl (Nat.le_of_ble_eq_true rfl) ?_
      show sm_W _ _ _ _ _ 23 [.ref 72, .int v1, .int v2, .int v3, .retAddr 0] [.int r8] (sm_hp m)
      refine w_if_eq (tgt := 29) dX12_sure_23 rfl (fun hc => ?_) (fun hc => ?_)
      · replace hf := sm_ift hc hf
        refine w_blk bX12_sure_29 [.ref 72, .int v1, .int v2, .int v3, .retAddr 0] [.int v1] (sm_hp m) [] rfl (sm_on) ?_
        refine w_if_ge (tgt := 37) dX12_sure_30 rfl (fun hc => ?_) (fun hc => ?_)
        · replace hf := sm_ift hc hf
          refine w_blk bX12_sure_37 [.ref 72, .int v1, .int v2, .int v3, .retAddr 0] [.int v1] (sm_hp m) [] rfl (sm_on) ?_
          refine w_blk bX12_sure_38 [.ref 72, .int v1, .int v2, .int v3, .int (0 : Int32)] [] (sm_hp m) [] rfl (sm_on) ?_
          exact tX12_sure_42 (fX12_sure_11 n) ih sm_fu v1 v2 v3 (0 : Int32) m r hf
        · replace hf := sm_iff hc hf
          refine w_blk bX12_sure_33 [.ref 72, .int v1, .int v2, .int v3, .retAddr 0] [.int v3] (sm_hp m) [] rfl (sm_on) ?_
          refine w_goto (tgt := 38) dX12_sure_34 rfl ?_
          refine w_blk bX12_sure_38 [.ref 72, .int v3, .int v2, .int v3, .int (0 : Int32)] [] (sm_hp m) [] rfl (sm_on) ?_
          exact tX12_sure_42 (fX12_sure_11 n) ih sm_fu v3 v2 v3 (0 : Int32) m r hf
      · replace hf := sm_iff hc hf
        refine w_goto (tgt := 81) dX12_sure_26 rfl ?_
        refine w_blk bX12_sure_81 [.ref 72, .int v1, .int v2, .int (v3 + (1 : Int32)), .retAddr 0] [] (sm_hp m) [] rfl (sm_on) ?_
        refine w_goto (tgt := 11) dX12_sure_84 rfl ?_
        exact ih v1 v2 (v3 + (1 : Int32)) m r hf
set_option maxRecDepth 10000 in
theorem tX12_sure {l : Launch} {al : Bool} (m : sm_S) (r : Int32 × sm_S) (hf : fX12_sure m = some r) : sm_Rt l mX12_sure 4 0 0 al al [.ref 72] (sm_hp m) (some (.int r.1), sm_hp r.2) := by
  refine sm_Rt.ofW (L := [.ref 72, .retAddr 0, .retAddr 0, .retAddr 0, .retAddr 0]) (by decide) (Nat.le_of_ble_eq_true rfl) rfl ?_
  unfold fX12_sure at hf
  refine w_blk bX12_sure_0 [.ref 72, .int (-1 : Int32), .int (0 : Int32), .int (0 : Int32), .retAddr 0] [] (sm_hp (sm_w1 m 72 0 (0 : Int32))) [] rfl (sm_on) ?_
  exact tX12_sure_11 sm_fu (-1 : Int32) (0 : Int32) (0 : Int32) (sm_w1 m 72 0 (0 : Int32)) r hf
set_option maxRecDepth 10000 in
theorem tX12_next_99 {l : Launch} {al : Bool} (k12 : Int32 → Int32 → Int32 → sm_S → Option (Int32 × sm_S)) (hk12 : ∀ (v1 : Int32) (v2 : Int32) (v3 : Int32) (m : sm_S) (r : Int32 × sm_S), k12 v1 v2 v3 m = some r → sm_W l mX12_next 4 al (some (.int r.1), sm_hp r.2) 12 [.ref 72, .int v1, .int v2, .int v3, .retAddr 0, .retAddr 0] [] (sm_hp m)) : ∀ (n : Nat) (v1 : Int32) (v2 : Int32) (v3 : Int32) (v4 : Int32) (v5 : Int32) (m : sm_S) (r : Int32 × sm_S), fX12_next_99 k12 n v1 v2 v3 v4 v5 m = some r → sm_W l mX12_next 4 al (some (.int r.1), sm_hp r.2) 99 [.ref 72, .int v1, .int v2, .int v3, .int v4, .int v5] [] (sm_hp m) := by
  intro n
  induction n with
  | zero =>
    intro v1 v2 v3 v4 v5 m r hf
    unfold fX12_next_99 at hf
    cases hf
  | succ n ih =>
    intro v1 v2 v3 v4 v5 m r hf
    unfold fX12_next_99 at hf
    refine w_blk bX12_next_99 [.ref 72, .int v1, .int v2, .int v3, .int v4, .int v5] [.int (7 : Int32), .int v5] (sm_hp m) [] rfl (sm_on) ?_
    refine w_icmp_ge (tgt := 126) dX12_next_103 rfl (fun hc => ?_) (fun hc => ?_)
    · replace hf := sm_ift hc hf
      refine w_blk bX12_next_126 [.ref 72, .int v1, .int v2, .int v3, .int v4, .int v5] [.int v4] (sm_hp m) [] rfl (sm_on) ?_
      refine w_if_le (tgt := 146) dX12_next_128 rfl (fun hc => ?_) (fun hc => ?_)
      · replace hf := sm_ift hc hf
        refine w_blk bX12_next_146 [.ref 72, .int v1, .int v2, .int (v3 + (1 : Int32)), .int v4, .int v5] [] (sm_hp m) [] rfl (sm_on) ?_
        refine w_goto (tgt := 12) dX12_next_149 rfl ?_
        refine w_wk [true, true, true, true, false, false] ?_
        exact hk12 v1 v2 (v3 + (1 : Int32)) m r hf
      · replace hf := sm_iff hc hf
        refine w_blk bX12_next_131 [.ref 72, .int v1, .int v2, .int v3, .int v4, .int v5] [.int v1] (sm_hp m) [] rfl (sm_on) ?_
        refine w_if_lt (tgt := 141) dX12_next_132 rfl (fun hc => ?_) (fun hc => ?_)
        · replace hf := sm_ift hc hf
          refine w_blk bX12_next_141 [.ref 72, .int v3, .int v4, .int v3, .int v4, .int v5] [] (sm_hp m) [] rfl (sm_on) ?_
          refine w_blk bX12_next_146 [.ref 72, .int v3, .int v4, .int (v3 + (1 : Int32)), .int v4, .int v5] [] (sm_hp m) [] rfl (sm_on) ?_
          refine w_goto (tgt := 12) dX12_next_149 rfl ?_
          refine w_wk [true, true, true, true, false, false] ?_
          exact hk12 v3 v4 (v3 + (1 : Int32)) m r hf
        · replace hf := sm_iff hc hf
          refine w_blk bX12_next_135 [.ref 72, .int v1, .int v2, .int v3, .int v4, .int v5] [.int v2, .int v4] (sm_hp m) [] rfl (sm_on) ?_
          refine w_icmp_ge (tgt := 146) dX12_next_138 rfl (fun hc => ?_) (fun hc => ?_)
          · replace hf := sm_ift hc hf
            refine w_blk bX12_next_146 [.ref 72, .int v1, .int v2, .int (v3 + (1 : Int32)), .int v4, .int v5] [] (sm_hp m) [] rfl (sm_on) ?_
            refine w_goto (tgt := 12) dX12_next_149 rfl ?_
            refine w_wk [true, true, true, true, false, false] ?_
            exact hk12 v1 v2 (v3 + (1 : Int32)) m r hf
          · replace hf := sm_iff hc hf
            refine w_blk bX12_next_141 [.ref 72, .int v3, .int v4, .int v3, .int v4, .int v5] [] (sm_hp m) [] rfl (sm_on) ?_
            refine w_blk bX12_next_146 [.ref 72, .int v3, .int v4, .int (v3 + (1 : Int32)), .int v4, .int v5] [] (sm_hp m) [] rfl (sm_on) ?_
            refine w_goto (tgt := 12) dX12_next_149 rfl ?_
            refine w_wk [true, true, true, true, false, false] ?_
            exact hk12 v3 v4 (v3 + (1 : Int32)) m r hf
    · replace hf := sm_iff hc hf
      replace hf := sm_ck hf
      obtain ⟨q3, hf⟩ := hf
      refine w_blk bX12_next_106 [.ref 72, .int v1, .int v2, .int v3, .int (if v4 < (m.1 104 (v5).toNatClampNeg) then (m.1 104 (v5).toNatClampNeg) else v4), .int (v5 + (1 : Int32))] [] (sm_hp m) [(v5, 7)] rfl (sm_oc q3 (sm_on)) ?_
      refine w_goto (tgt := 99) dX12_next_123 rfl ?_
      exact ih v1 v2 v3 (if v4 < (m.1 104 (v5).toNatClampNeg) then (m.1 104 (v5).toNatClampNeg) else v4) (v5 + (1 : Int32)) m r hf
set_option maxRecDepth 10000 in
theorem tX12_next_47 {l : Launch} {al : Bool} (k12 : Int32 → Int32 → Int32 → sm_S → Option (Int32 × sm_S)) (hk12 : ∀ (v1 : Int32) (v2 : Int32) (v3 : Int32) (m : sm_S) (r : Int32 × sm_S), k12 v1 v2 v3 m = some r → sm_W l mX12_next 4 al (some (.int r.1), sm_hp r.2) 12 [.ref 72, .int v1, .int v2, .int v3, .retAddr 0, .retAddr 0] [] (sm_hp m)) : ∀ (n : Nat) (v1 : Int32) (v2 : Int32) (v3 : Int32) (v4 : Int32) (m : sm_S) (r : Int32 × sm_S), fX12_next_47 k12 n v1 v2 v3 v4 m = some r → sm_W l mX12_next 4 al (some (.int r.1), sm_hp r.2) 47 [.ref 72, .int v1, .int v2, .int v3, .int v4, .retAddr 0] [] (sm_hp m) := by
  intro n
  induction n with
  | zero =>
    intro v1 v2 v3 v4 m r hf
    unfold fX12_next_47 at hf
    cases hf
  | succ n ih =>
    intro v1 v2 v3 v4 m r hf
    unfold fX12_next_47 at hf
    refine w_blk bX12_next_47 [.ref 72, .int v1, .int v2, .int v3, .int v4, .retAddr 0] [.int (4096 : Int32), .int v4] (sm_hp m) [] rfl (sm_on) ?_
    refine w_icmp_ge (tgt := 93) dX12_next_52 rfl (fun hc => ?_) (fun hc => ?_)
    · replace hf := sm_ift hc hf
      refine w_blk bX12_next_93 [.ref 72, .int v1, .int v2, .int v3, .int (0 : Int32), .int (0 : Int32)] [] (sm_hp m) [] rfl (sm_on) ?_
      exact tX12_next_99 k12 hk12 sm_fu v1 v2 v3 (0 : Int32) (0 : Int32) m r hf
    · replace hf := sm_iff hc hf
      refine w_blk bX12_next_55 [.ref 72, .int v1, .int v2, .int v3, .int v4, .retAddr 0] [.int v3, .int v4, .ref 72, .ref 104] (sm_hp m) [] rfl (sm_on) ?_
      replace hf := sm_bd hf
      obtain ⟨r5, q4, hf⟩ := hf
      refine w_callV [.int v4, .int v3] [.ref 104] (tX12_over v4 v3 m r5 q4) (cvX12_393 rfl) dX12_next_63 rfl rfl (by decide) (by decide) rfl (Nat.le_of_ble_eq_true rfl) ?_
      show sm_W _ _ _ _ _ 66 [.ref 72, .int v1, .int v2, .int v3, .int v4, .retAddr 0] [.int r5, .ref 104] (sm_hp m)
      replace hf := sm_ck hf
      obtain ⟨q6, hf⟩ := hf
      refine w_blk bX12_next_66 [.ref 72, .int v1, .int v2, .int v3, .int v4, .retAddr 0] [.int v4, .ref 72, .int (m.1 104 (r5).toNatClampNeg), .int r5, .ref 104] (sm_hp m) [(r5, 7)] rfl (sm_oc q6 (sm_on)) ?_
      replace hf := sm_bd hf
      obtain ⟨r8, q7, hf⟩ := hf
      refine w_callV [.int v4] [.int (m.1 104 (r5).toNatClampNeg), .int r5, .ref 104] (tX12_wrongOf v4 m r8 q7) (cvX12_396 rfl) dX12_next_71 rfl rfl (by decide) (by decide) rfl (Nat.le_of_ble_eq_true rfl) ?_
      show sm_W _ _ _ _ _ 74 [.ref 72, .int v1, .int v2, .int v3, .int v4, .retAddr 0] [.int r8, .int (m.1 104 (r5).toNatClampNeg), .int r5, .ref 104] (sm_hp m)
      refine w_if_ne (tgt := 81) dX12_next_74 rfl (fun hc => ?_) (fun hc => ?_)
      · replace hf := sm_iff hc hf
        refine w_blk bX12_next_81 [.ref 72, .int v1, .int v2, .int v3, .int v4, .retAddr 0] [.int (0 : Int32), .int (m.1 104 (r5).toNatClampNeg), .int r5, .ref 104] (sm_hp m) [] rfl (sm_on) ?_
        replace hf := sm_bd hf
        obtain ⟨r10, q9, hf⟩ := hf
        refine w_callS [.int (0 : Int32)] [.int (m.1 104 (r5).toNatClampNeg), .int r5, .ref 104] (tX12_flag (0 : Int32) m r10 q9) (csX12_42 rfl) dX12_next_82 rfl rfl (by decide) (by decide) (Nat.le_of_ble_eq_true rfl) ?_
        show sm_W _ _ _ _ _ 85 [.ref 72, .int v1, .int v2, .int v3, .int v4, .retAddr 0] [.int r10, .int (m.1 104 (r5).toNatClampNeg), .int r5, .ref 104] (sm_hp m)
        replace hf := sm_ck hf
        obtain ⟨q11, hf⟩ := hf
        refine w_blk bX12_next_85 [.ref 72, .int v1, .int v2, .int v3, .int (v4 + (1 : Int32)), .retAddr 0] [] (sm_hp (sm_w1 m 104 (r5).toNatClampNeg ((m.1 104 (r5).toNatClampNeg) + r10))) [(r5, 7)] rfl (sm_oc q11 (sm_on)) ?_
        refine w_goto (tgt := 47) dX12_next_90 rfl ?_
        exact ih v1 v2 v3 (v4 + (1 : Int32)) (sm_w1 m 104 (r5).toNatClampNeg ((m.1 104 (r5).toNatClampNeg) + r10)) r hf
      · replace hf := sm_ift hc hf
        refine w_blk bX12_next_77 [.ref 72, .int v1, .int v2, .int v3, .int v4, .retAddr 0] [.int (1 : Int32), .int (m.1 104 (r5).toNatClampNeg), .int r5, .ref 104] (sm_hp m) [] rfl (sm_on) ?_
        refine w_goto (tgt := 82) dX12_next_78 rfl ?_
        replace hf := sm_bd hf
        obtain ⟨r13, q12, hf⟩ := hf
        refine w_callS [.int (1 : Int32)] [.int (m.1 104 (r5).toNatClampNeg), .int r5, .ref 104] (tX12_flag (1 : Int32) m r13 q12) (csX12_42 rfl) dX12_next_82 rfl rfl (by decide) (by decide) (Nat.le_of_ble_eq_true rfl) ?_
        show sm_W _ _ _ _ _ 85 [.ref 72, .int v1, .int v2, .int v3, .int v4, .retAddr 0] [.int r13, .int (m.1 104 (r5).toNatClampNeg), .int r5, .ref 104] (sm_hp m)
        replace hf := sm_ck hf
        obtain ⟨q14, hf⟩ := hf
        refine w_blk bX12_next_85 [.ref 72, .int v1, .int v2, .int v3, .int (v4 + (1 : Int32)), .retAddr 0] [] (sm_hp (sm_w1 m 104 (r5).toNatClampNeg ((m.1 104 (r5).toNatClampNeg) + r13))) [(r5, 7)] rfl (sm_oc q14 (sm_on)) ?_
        refine w_goto (tgt := 47) dX12_next_90 rfl ?_
        exact ih v1 v2 v3 (v4 + (1 : Int32)) (sm_w1 m 104 (r5).toNatClampNeg ((m.1 104 (r5).toNatClampNeg) + r13)) r hf
set_option maxRecDepth 10000 in
theorem tX12_next_23 {l : Launch} {al : Bool} (k12 : Int32 → Int32 → Int32 → sm_S → Option (Int32 × sm_S)) (hk12 : ∀ (v1 : Int32) (v2 : Int32) (v3 : Int32) (m : sm_S) (r : Int32 × sm_S), k12 v1 v2 v3 m = some r → sm_W l mX12_next 4 al (some (.int r.1), sm_hp r.2) 12 [.ref 72, .int v1, .int v2, .int v3, .retAddr 0, .retAddr 0] [] (sm_hp m)) : ∀ (n : Nat) (v1 : Int32) (v2 : Int32) (v3 : Int32) (v4 : Int32) (m : sm_S) (r : Int32 × sm_S), fX12_next_23 k12 n v1 v2 v3 v4 m = some r → sm_W l mX12_next 4 al (some (.int r.1), sm_hp r.2) 23 [.ref 72, .int v1, .int v2, .int v3, .int v4, .retAddr 0] [] (sm_hp m) := by
  intro n
  induction n with
  | zero =>
    intro v1 v2 v3 v4 m r hf
    unfold fX12_next_23 at hf
    cases hf
  | succ n ih =>
    intro v1 v2 v3 v4 m r hf
    unfold fX12_next_23 at hf
    refine w_blk bX12_next_23 [.ref 72, .int v1, .int v2, .int v3, .int v4, .retAddr 0] [.int (7 : Int32), .int v4] (sm_hp m) [] rfl (sm_on) ?_
    refine w_icmp_ge (tgt := 44) dX12_next_27 rfl (fun hc => ?_) (fun hc => ?_)
    · replace hf := sm_ift hc hf
      refine w_blk bX12_next_44 [.ref 72, .int v1, .int v2, .int v3, .int (0 : Int32), .retAddr 0] [] (sm_hp m) [] rfl (sm_on) ?_
      exact tX12_next_47 k12 hk12 sm_fu v1 v2 v3 (0 : Int32) m r hf
    · replace hf := sm_iff hc hf
      replace hf := sm_ck hf
      obtain ⟨q15, hf⟩ := hf
      refine w_blk bX12_next_30 [.ref 72, .int v1, .int v2, .int v3, .int (v4 + (1 : Int32)), .retAddr 0] [] (sm_hp (sm_w1 m 104 (v4).toNatClampNeg (0 : Int32))) [(v4, 7)] rfl (sm_oc q15 (sm_on)) ?_
      refine w_goto (tgt := 23) dX12_next_41 rfl ?_
      exact ih v1 v2 v3 (v4 + (1 : Int32)) (sm_w1 m 104 (v4).toNatClampNeg (0 : Int32)) r hf
set_option maxRecDepth 10000 in
theorem tX12_next_12 {l : Launch} {al : Bool} : ∀ (n : Nat) (v1 : Int32) (v2 : Int32) (v3 : Int32) (m : sm_S) (r : Int32 × sm_S), fX12_next_12 n v1 v2 v3 m = some r → sm_W l mX12_next 4 al (some (.int r.1), sm_hp r.2) 12 [.ref 72, .int v1, .int v2, .int v3, .retAddr 0, .retAddr 0] [] (sm_hp m) := by
  intro n
  induction n with
  | zero =>
    intro v1 v2 v3 m r hf
    unfold fX12_next_12 at hf
    cases hf
  | succ n ih =>
    intro v1 v2 v3 m r hf
    unfold fX12_next_12 at hf
    refine w_blk bX12_next_12 [.ref 72, .int v1, .int v2, .int v3, .retAddr 0, .retAddr 0] [.int (m.1 72 6), .int v3] (sm_hp m) [] rfl (sm_on) ?_
    refine w_icmp_ge (tgt := 152) dX12_next_17 rfl (fun hc => ?_) (fun hc => ?_)
    · replace hf := sm_ift hc hf
      refine w_blk bX12_next_152 [.ref 72, .int v1, .int v2, .int v3, .retAddr 0, .retAddr 0] [.int v1] (sm_hp m) [] rfl (sm_on) ?_
      refine w_if_ge (tgt := 159) dX12_next_153 rfl (fun hc => ?_) (fun hc => ?_)
      · replace hf := sm_ift hc hf
        refine w_blk bX12_next_159 [.ref 72, .int v1, .int v2, .int v3, .retAddr 0, .retAddr 0] [.int v2, .ref 72] (sm_hp (sm_w1 m 72 1 (0 : Int32))) [] rfl (sm_on) ?_
        replace hf := sm_bd hf
        obtain ⟨m2, q1, hf⟩ := hf
        refine w_callV [.int v2] [] (tX12_enters v2 (sm_w1 m 72 1 (0 : Int32)) m2 q1) (cvX12_229 rfl) dX12_next_166 rfl rfl (by decide) (by decide) rfl (Nat.le_of_ble_eq_true rfl) ?_
        show sm_W _ _ _ _ _ 169 [.ref 72, .int v1, .int v2, .int v3, .retAddr 0, .retAddr 0] [] (sm_hp m2)
        refine w_blk bX12_next_169 [.ref 72, .int v1, .int v2, .int v3, .retAddr 0, .retAddr 0] [.int v1] (sm_hp m2) [] rfl (sm_on) ?_
        obtain rfl := Option.some.inj hf
        exact w_reti dX12_next_170 rfl rfl
      · replace hf := sm_iff hc hf
        refine w_blk bX12_next_156 [.ref 72, .int v1, .int v2, .int v3, .retAddr 0, .retAddr 0] [.int (-2 : Int32)] (sm_hp m) [] rfl (sm_on) ?_
        obtain rfl := Option.some.inj hf
        exact w_reti dX12_next_158 rfl rfl
    · replace hf := sm_iff hc hf
      refine w_blk bX12_next_20 [.ref 72, .int v1, .int v2, .int v3, .int (0 : Int32), .retAddr 0] [] (sm_hp m) [] rfl (sm_on) ?_
      exact tX12_next_23 (fX12_next_12 n) ih sm_fu v1 v2 v3 (0 : Int32) m r hf
set_option maxRecDepth 10000 in
theorem tX12_next {l : Launch} {al : Bool} (m : sm_S) (r : Int32 × sm_S) (hf : fX12_next m = some r) : sm_Rt l mX12_next 4 0 0 al al [.ref 72] (sm_hp m) (some (.int r.1), sm_hp r.2) := by
  refine sm_Rt.ofW (L := [.ref 72, .retAddr 0, .retAddr 0, .retAddr 0, .retAddr 0, .retAddr 0]) (by decide) (Nat.le_of_ble_eq_true rfl) rfl ?_
  unfold fX12_next at hf
  refine w_blk bX12_next_0 [.ref 72, .int (-2 : Int32), .int (0 : Int32), .int (0 : Int32), .retAddr 0, .retAddr 0] [] (sm_hp (sm_w1 m 72 0 (0 : Int32))) [] rfl (sm_on) ?_
  exact tX12_next_12 sm_fu (-2 : Int32) (0 : Int32) (0 : Int32) (sm_w1 m 72 0 (0 : Int32)) r hf
set_option maxRecDepth 10000 in
theorem tX12_lies_16 {l : Launch} {al : Bool} : ∀ (n : Nat) (v1 : Int32) (v2 : Int32) (m : sm_S) (r : Int32 × sm_S), fX12_lies_16 n v1 v2 m = some r → sm_W l mX12_lies 4 al (some (.int r.1), sm_hp r.2) 16 [.ref 72, .int v1, .int v2, .retAddr 0, .retAddr 0] [] (sm_hp m) := by
  intro n
  induction n with
  | zero =>
    intro v1 v2 m r hf
    unfold fX12_lies_16 at hf
    cases hf
  | succ n ih =>
    intro v1 v2 m r hf
    unfold fX12_lies_16 at hf
    refine w_blk bX12_lies_16 [.ref 72, .int v1, .int v2, .retAddr 0, .retAddr 0] [.int (4096 : Int32), .int v2] (sm_hp m) [] rfl (sm_on) ?_
    refine w_icmp_ge (tgt := 67) dX12_lies_20 rfl (fun hc => ?_) (fun hc => ?_)
    · replace hf := sm_ift hc hf
      refine w_blk bX12_lies_67 [.ref 72, .int v1, .int v2, .retAddr 0, .retAddr 0] [.int v1, .ref 72] (sm_hp (sm_w1 m 72 1 (0 : Int32))) [] rfl (sm_on) ?_
      replace hf := sm_bd hf
      obtain ⟨m2, q1, hf⟩ := hf
      refine w_callV [.int v1] [] (tX12_enters v1 (sm_w1 m 72 1 (0 : Int32)) m2 q1) (cvX12_229 rfl) dX12_lies_74 rfl rfl (by decide) (by decide) rfl (Nat.le_of_ble_eq_true rfl) ?_
      show sm_W _ _ _ _ _ 77 [.ref 72, .int v1, .int v2, .retAddr 0, .retAddr 0] [] (sm_hp m2)
      refine w_blk bX12_lies_77 [.ref 72, .int v1, .int v2, .retAddr 0, .retAddr 0] [.int v1] (sm_hp m2) [] rfl (sm_on) ?_
      replace hf := sm_bd hf
      obtain ⟨r4, q3, hf⟩ := hf
      refine w_callS [.int v1] [] (tJ6_bitCount_0f7a4 v1 m2 r4 q3) (csX12_272 rfl) dX12_lies_78 rfl rfl (by decide) (by decide) (Nat.le_of_ble_eq_true rfl) ?_
      show sm_W _ _ _ _ _ 81 [.ref 72, .int v1, .int v2, .retAddr 0, .retAddr 0] [.int r4] (sm_hp m2)
      obtain rfl := Option.some.inj hf
      exact w_reti dX12_lies_81 rfl rfl
    · replace hf := sm_iff hc hf
      refine w_blk bX12_lies_23 [.ref 72, .int v1, .int v2, .retAddr 0, .retAddr 0] [.int v2, .ref 72] (sm_hp m) [] rfl (sm_on) ?_
      replace hf := sm_bd hf
      obtain ⟨r6, q5, hf⟩ := hf
      refine w_callV [.int v2] [] (tX12_wrongOf v2 m r6 q5) (cvX12_396 rfl) dX12_lies_25 rfl rfl (by decide) (by decide) rfl (Nat.le_of_ble_eq_true rfl) ?_
      show sm_W _ _ _ _ _ 28 [.ref 72, .int v1, .int v2, .retAddr 0, .retAddr 0] [.int r6] (sm_hp m)
      refine w_blk bX12_lies_28 [.ref 72, .int v1, .int v2, .int r6, .retAddr 0] [.int r6] (sm_hp m) [] rfl (sm_on) ?_
      replace hf := sm_bd hf
      obtain ⟨r8, q7, hf⟩ := hf
      refine w_callS [.int r6] [] (tJ6_bitCount_0f7a4 r6 m r8 q7) (csX12_272 rfl) dX12_lies_30 rfl rfl (by decide) (by decide) (Nat.le_of_ble_eq_true rfl) ?_
      show sm_W _ _ _ _ _ 33 [.ref 72, .int v1, .int v2, .int r6, .retAddr 0] [.int r8] (sm_hp m)
      refine w_blk bX12_lies_33 [.ref 72, .int v1, .int v2, .int r6, .retAddr 0] [.int v1, .int r8] (sm_hp m) [] rfl (sm_on) ?_
      replace hf := sm_bd hf
      obtain ⟨r10, q9, hf⟩ := hf
      refine w_callS [.int v1] [.int r8] (tJ6_bitCount_0f7a4 v1 m r10 q9) (csX12_272 rfl) dX12_lies_34 rfl rfl (by decide) (by decide) (Nat.le_of_ble_eq_true rfl) ?_
      show sm_W _ _ _ _ _ 37 [.ref 72, .int v1, .int v2, .int r6, .retAddr 0] [.int r10, .int r8] (sm_hp m)
      refine w_blk bX12_lies_37 [.ref 72, .int v1, .int v2, .int r6, .int (r8 - r10)] [.int (r8 - r10)] (sm_hp m) [] rfl (sm_on) ?_
      refine w_if_lt (tgt := 55) dX12_lies_42 rfl (fun hc => ?_) (fun hc => ?_)
      · replace hf := sm_ift hc hf
        refine w_blk bX12_lies_55 [.ref 72, .int v1, .int v2, .int r6, .int (r8 - r10)] [.int r6] (sm_hp m) [] rfl (sm_on) ?_
        refine w_goto (tgt := 60) dX12_lies_56 rfl ?_
        refine w_blk bX12_lies_60 [.ref 72, .int r6, .int (v2 + (1 : Int32)), .int r6, .int (r8 - r10)] [] (sm_hp m) [] rfl (sm_on) ?_
        refine w_goto (tgt := 16) dX12_lies_64 rfl ?_
        refine w_wk [true, true, true, false, false] ?_
        exact ih r6 (v2 + (1 : Int32)) m r hf
      · replace hf := sm_iff hc hf
        refine w_blk bX12_lies_45 [.ref 72, .int v1, .int v2, .int r6, .int (r8 - r10)] [.int (r8 - r10)] (sm_hp m) [] rfl (sm_on) ?_
        refine w_if_ne (tgt := 59) dX12_lies_47 rfl (fun hc => ?_) (fun hc => ?_)
        · replace hf := sm_iff hc hf
          refine w_blk bX12_lies_59 [.ref 72, .int v1, .int v2, .int r6, .int (r8 - r10)] [.int v1] (sm_hp m) [] rfl (sm_on) ?_
          refine w_blk bX12_lies_60 [.ref 72, .int v1, .int (v2 + (1 : Int32)), .int r6, .int (r8 - r10)] [] (sm_hp m) [] rfl (sm_on) ?_
          refine w_goto (tgt := 16) dX12_lies_64 rfl ?_
          refine w_wk [true, true, true, false, false] ?_
          exact ih v1 (v2 + (1 : Int32)) m r hf
        · replace hf := sm_ift hc hf
          refine w_blk bX12_lies_50 [.ref 72, .int v1, .int v2, .int r6, .int (r8 - r10)] [.int v1, .int r6] (sm_hp m) [] rfl (sm_on) ?_
          refine w_icmp_ge (tgt := 59) dX12_lies_52 rfl (fun hc => ?_) (fun hc => ?_)
          · replace hf := sm_ift hc hf
            refine w_blk bX12_lies_59 [.ref 72, .int v1, .int v2, .int r6, .int (r8 - r10)] [.int v1] (sm_hp m) [] rfl (sm_on) ?_
            refine w_blk bX12_lies_60 [.ref 72, .int v1, .int (v2 + (1 : Int32)), .int r6, .int (r8 - r10)] [] (sm_hp m) [] rfl (sm_on) ?_
            refine w_goto (tgt := 16) dX12_lies_64 rfl ?_
            refine w_wk [true, true, true, false, false] ?_
            exact ih v1 (v2 + (1 : Int32)) m r hf
          · replace hf := sm_iff hc hf
            refine w_blk bX12_lies_55 [.ref 72, .int v1, .int v2, .int r6, .int (r8 - r10)] [.int r6] (sm_hp m) [] rfl (sm_on) ?_
            refine w_goto (tgt := 60) dX12_lies_56 rfl ?_
            refine w_blk bX12_lies_60 [.ref 72, .int r6, .int (v2 + (1 : Int32)), .int r6, .int (r8 - r10)] [] (sm_hp m) [] rfl (sm_on) ?_
            refine w_goto (tgt := 16) dX12_lies_64 rfl ?_
            refine w_wk [true, true, true, false, false] ?_
            exact ih r6 (v2 + (1 : Int32)) m r hf
set_option maxRecDepth 10000 in
theorem tX12_lies {l : Launch} {al : Bool} (m : sm_S) (r : Int32 × sm_S) (hf : fX12_lies m = some r) : sm_Rt l mX12_lies 4 0 0 al al [.ref 72] (sm_hp m) (some (.int r.1), sm_hp r.2) := by
  refine sm_Rt.ofW (L := [.ref 72, .retAddr 0, .retAddr 0, .retAddr 0, .retAddr 0]) (by decide) (Nat.le_of_ble_eq_true rfl) rfl ?_
  unfold fX12_lies at hf
  refine w_blk bX12_lies_0 [.ref 72, .int (((1 : Int32) <<< ((m.1 72 51) &&& 31)) - (1 : Int32)), .int (0 : Int32), .retAddr 0, .retAddr 0] [] (sm_hp (sm_w1 m 72 0 (0 : Int32))) [] rfl (sm_on) ?_
  exact tX12_lies_16 sm_fu (((1 : Int32) <<< ((m.1 72 51) &&& 31)) - (1 : Int32)) (0 : Int32) (sm_w1 m 72 0 (0 : Int32)) r hf
set_option maxRecDepth 10000 in
theorem tX12_holds_2 {l : Launch} {al : Bool} : ∀ (n : Nat) (v1 : Int32) (v2 : Int32) (m : sm_S) (r : Int32), fX12_holds_2 n v1 v2 m = some r → sm_W l mX12_holds 4 al (some (.int r), sm_hp m) 2 [.ref 72, .int v1, .int v2] [] (sm_hp m) := by
  intro n
  induction n with
  | zero =>
    intro v1 v2 m r hf
    unfold fX12_holds_2 at hf
    cases hf
  | succ n ih =>
    intro v1 v2 m r hf
    unfold fX12_holds_2 at hf
    refine w_blk bX12_holds_2 [.ref 72, .int v1, .int v2] [.int (4096 : Int32), .int v2] (sm_hp m) [] rfl (sm_on) ?_
    refine w_icmp_ge (tgt := 27) dX12_holds_6 rfl (fun hc => ?_) (fun hc => ?_)
    · replace hf := sm_ift hc hf
      refine w_blk bX12_holds_27 [.ref 72, .int v1, .int v2] [.int (0 : Int32)] (sm_hp m) [] rfl (sm_on) ?_
      obtain rfl := Option.some.inj hf
      exact w_reti dX12_holds_28 rfl sm_nb0
    · replace hf := sm_iff hc hf
      refine w_blk bX12_holds_9 [.ref 72, .int v1, .int v2] [.int v2, .ref 72] (sm_hp m) [] rfl (sm_on) ?_
      replace hf := sm_bd hf
      obtain ⟨r2, q1, hf⟩ := hf
      refine w_callV [.int v2] [] (tX12_wrongOf v2 m r2 q1) (cvX12_396 rfl) dX12_holds_11 rfl rfl (by decide) (by decide) rfl (Nat.le_of_ble_eq_true rfl) ?_
      show sm_W _ _ _ _ _ 14 [.ref 72, .int v1, .int v2] [.int r2] (sm_hp m)
      refine w_blk bX12_holds_14 [.ref 72, .int v1, .int v2] [.int (r2 &&& v1)] (sm_hp m) [] rfl (sm_on) ?_
      refine w_if_ne (tgt := 21) dX12_holds_16 rfl (fun hc => ?_) (fun hc => ?_)
      · replace hf := sm_iff hc hf
        refine w_blk bX12_holds_21 [.ref 72, .int v1, .int (v2 + (1 : Int32))] [] (sm_hp m) [] rfl (sm_on) ?_
        refine w_goto (tgt := 2) dX12_holds_24 rfl ?_
        exact ih v1 (v2 + (1 : Int32)) m r hf
      · replace hf := sm_ift hc hf
        refine w_blk bX12_holds_19 [.ref 72, .int v1, .int v2] [.int (1 : Int32)] (sm_hp m) [] rfl (sm_on) ?_
        obtain rfl := Option.some.inj hf
        exact w_reti dX12_holds_20 rfl sm_nb1
set_option maxRecDepth 10000 in
theorem tX12_holds {l : Launch} {al : Bool} (x1 : Int32) (m : sm_S) (r : Int32) (hf : fX12_holds x1 m = some r) : sm_Rt l mX12_holds 4 0 0 al al [.ref 72, .int x1] (sm_hp m) (some (.int r), sm_hp m) := by
  refine sm_Rt.ofW (L := [.ref 72, .int x1, .retAddr 0]) (by decide) (Nat.le_of_ble_eq_true rfl) rfl ?_
  unfold fX12_holds at hf
  refine w_blk bX12_holds_0 [.ref 72, .int x1, .int (0 : Int32)] [] (sm_hp m) [] rfl (sm_on) ?_
  exact tX12_holds_2 sm_fu x1 (0 : Int32) m r hf
set_option maxRecDepth 10000 in
theorem tX12_quarrel_50 {l : Launch} {al : Bool} : ∀ (n : Nat) (v1 : Int32) (v2 : Int32) (v3 : Int32) (m : sm_S) (r : Int32 × sm_S), fX12_quarrel_50 n v1 v2 v3 m = some r → sm_W l mX12_quarrel 5 al (some (.int r.1), sm_hp r.2) 50 [.ref 72, .int v1, .int v2, .int v3] [] (sm_hp m) := by
  intro n
  induction n with
  | zero =>
    intro v1 v2 v3 m r hf
    unfold fX12_quarrel_50 at hf
    cases hf
  | succ n ih =>
    intro v1 v2 v3 m r hf
    unfold fX12_quarrel_50 at hf
    refine w_blk bX12_quarrel_50 [.ref 72, .int v1, .int v2, .int v3] [.int v3] (sm_hp m) [] rfl (sm_on) ?_
    refine w_if_lt (tgt := 80) dX12_quarrel_51 rfl (fun hc => ?_) (fun hc => ?_)
    · replace hf := sm_ift hc hf
      refine w_blk bX12_quarrel_80 [.ref 72, .int v1, .int v2, .int v3] [.int v2, .ref 72] (sm_hp (sm_w1 m 72 1 (0 : Int32))) [] rfl (sm_on) ?_
      replace hf := sm_bd hf
      obtain ⟨m2, q1, hf⟩ := hf
      refine w_callV [.int v2] [] (tX12_enters v2 (sm_w1 m 72 1 (0 : Int32)) m2 q1) (cvX12_229 rfl) dX12_quarrel_87 rfl rfl (by decide) (by decide) rfl (Nat.le_of_ble_eq_true rfl) ?_
      show sm_W _ _ _ _ _ 90 [.ref 72, .int v1, .int v2, .int v3] [] (sm_hp m2)
      refine w_blk bX12_quarrel_90 [.ref 72, .int v1, .int v2, .int v3] [.int v1] (sm_hp m2) [] rfl (sm_on) ?_
      obtain rfl := Option.some.inj hf
      exact w_reti dX12_quarrel_91 rfl rfl
    · replace hf := sm_iff hc hf
      refine w_blk bX12_quarrel_54 [.ref 72, .int v1, .int v2, .int v3] [.int (((1 : Int32) <<< (v1 &&& 31)) ||| ((1 : Int32) <<< (v3 &&& 31))), .ref 72] (sm_hp m) [] rfl (sm_on) ?_
      replace hf := sm_bd hf
      obtain ⟨r4, q3, hf⟩ := hf
      refine w_callV [.int (((1 : Int32) <<< (v1 &&& 31)) ||| ((1 : Int32) <<< (v3 &&& 31)))] [] (tX12_holds (((1 : Int32) <<< (v1 &&& 31)) ||| ((1 : Int32) <<< (v3 &&& 31))) m r4 q3) (cvX12_405 rfl) dX12_quarrel_62 rfl rfl (by decide) (by decide) rfl (Nat.le_of_ble_eq_true rfl) ?_
      show sm_W _ _ _ _ _ 65 [.ref 72, .int v1, .int v2, .int v3] [.int r4] (sm_hp m)
      refine w_if_eq (tgt := 72) dX12_quarrel_65 rfl (fun hc => ?_) (fun hc => ?_)
      · replace hf := sm_ift hc hf
        refine w_blk bX12_quarrel_72 [.ref 72, .int v1, .int v2, .int v3] [.int v3] (sm_hp m) [] rfl (sm_on) ?_
        refine w_blk bX12_quarrel_73 [.ref 72, .int v1, .int v3, .int (v3 + (-1 : Int32))] [] (sm_hp m) [] rfl (sm_on) ?_
        refine w_goto (tgt := 50) dX12_quarrel_77 rfl ?_
        exact ih v1 v3 (v3 + (-1 : Int32)) m r hf
      · replace hf := sm_iff hc hf
        refine w_blk bX12_quarrel_68 [.ref 72, .int v1, .int v2, .int v3] [.int v2] (sm_hp m) [] rfl (sm_on) ?_
        refine w_goto (tgt := 73) dX12_quarrel_69 rfl ?_
        refine w_blk bX12_quarrel_73 [.ref 72, .int v1, .int v2, .int (v3 + (-1 : Int32))] [] (sm_hp m) [] rfl (sm_on) ?_
        refine w_goto (tgt := 50) dX12_quarrel_77 rfl ?_
        exact ih v1 v2 (v3 + (-1 : Int32)) m r hf
set_option maxRecDepth 10000 in
theorem tX12_quarrel_7 {l : Launch} {al : Bool} : ∀ (n : Nat) (v1 : Int32) (m : sm_S) (r : Int32 × sm_S), fX12_quarrel_7 n v1 m = some r → sm_W l mX12_quarrel 5 al (some (.int r.1), sm_hp r.2) 7 [.ref 72, .int v1, .retAddr 0, .retAddr 0] [] (sm_hp m) := by
  intro n
  induction n with
  | zero =>
    intro v1 m r hf
    unfold fX12_quarrel_7 at hf
    cases hf
  | succ n ih =>
    intro v1 m r hf
    unfold fX12_quarrel_7 at hf
    refine w_blk bX12_quarrel_7 [.ref 72, .int v1, .retAddr 0, .retAddr 0] [.int (m.1 72 51), .int v1] (sm_hp m) [] rfl (sm_on) ?_
    refine w_icmp_ge (tgt := 33) dX12_quarrel_12 rfl (fun hc => ?_) (fun hc => ?_)
    · replace hf := sm_ift hc hf
      refine w_blk bX12_quarrel_33 [.ref 72, .int v1, .retAddr 0, .retAddr 0] [.int (m.1 72 51), .int v1] (sm_hp m) [] rfl (sm_on) ?_
      refine w_icmp_ne (tgt := 44) dX12_quarrel_38 rfl (fun hc => ?_) (fun hc => ?_)
      · replace hf := sm_iff hc hf
        refine w_blk bX12_quarrel_44 [.ref 72, .int v1, .int (-1 : Int32), .int (v1 - (1 : Int32))] [] (sm_hp m) [] rfl (sm_on) ?_
        exact tX12_quarrel_50 sm_fu v1 (-1 : Int32) (v1 - (1 : Int32)) m r hf
      · replace hf := sm_ift hc hf
        refine w_blk bX12_quarrel_41 [.ref 72, .int v1, .retAddr 0, .retAddr 0] [.int (-2 : Int32)] (sm_hp m) [] rfl (sm_on) ?_
        obtain rfl := Option.some.inj hf
        exact w_reti dX12_quarrel_43 rfl rfl
    · replace hf := sm_iff hc hf
      refine w_blk bX12_quarrel_15 [.ref 72, .int v1, .retAddr 0, .retAddr 0] [.int (((2 : Int32) <<< (v1 &&& 31)) - (1 : Int32)), .ref 72] (sm_hp m) [] rfl (sm_on) ?_
      replace hf := sm_bd hf
      obtain ⟨r6, q5, hf⟩ := hf
      refine w_callV [.int (((2 : Int32) <<< (v1 &&& 31)) - (1 : Int32))] [] (tX12_holds (((2 : Int32) <<< (v1 &&& 31)) - (1 : Int32)) m r6 q5) (cvX12_405 rfl) dX12_quarrel_21 rfl rfl (by decide) (by decide) rfl (Nat.le_of_ble_eq_true rfl) ?_
      show sm_W _ _ _ _ _ 24 [.ref 72, .int v1, .retAddr 0, .retAddr 0] [.int r6] (sm_hp m)
      refine w_if_eq (tgt := 33) dX12_quarrel_24 rfl (fun hc => ?_) (fun hc => ?_)
      · replace hf := sm_ift hc hf
        refine w_blk bX12_quarrel_33 [.ref 72, .int v1, .retAddr 0, .retAddr 0] [.int (m.1 72 51), .int v1] (sm_hp m) [] rfl (sm_on) ?_
        refine w_icmp_ne (tgt := 44) dX12_quarrel_38 rfl (fun hc => ?_) (fun hc => ?_)
        · replace hf := sm_iff hc hf
          refine w_blk bX12_quarrel_44 [.ref 72, .int v1, .int (-1 : Int32), .int (v1 - (1 : Int32))] [] (sm_hp m) [] rfl (sm_on) ?_
          exact tX12_quarrel_50 sm_fu v1 (-1 : Int32) (v1 - (1 : Int32)) m r hf
        · replace hf := sm_ift hc hf
          refine w_blk bX12_quarrel_41 [.ref 72, .int v1, .retAddr 0, .retAddr 0] [.int (-2 : Int32)] (sm_hp m) [] rfl (sm_on) ?_
          obtain rfl := Option.some.inj hf
          exact w_reti dX12_quarrel_43 rfl rfl
      · replace hf := sm_iff hc hf
        refine w_blk bX12_quarrel_27 [.ref 72, .int (v1 + (1 : Int32)), .retAddr 0, .retAddr 0] [] (sm_hp m) [] rfl (sm_on) ?_
        refine w_goto (tgt := 7) dX12_quarrel_30 rfl ?_
        exact ih (v1 + (1 : Int32)) m r hf
set_option maxRecDepth 10000 in
theorem tX12_quarrel {l : Launch} {al : Bool} (m : sm_S) (r : Int32 × sm_S) (hf : fX12_quarrel m = some r) : sm_Rt l mX12_quarrel 5 0 0 al al [.ref 72] (sm_hp m) (some (.int r.1), sm_hp r.2) := by
  refine sm_Rt.ofW (L := [.ref 72, .retAddr 0, .retAddr 0, .retAddr 0]) (by decide) (Nat.le_of_ble_eq_true rfl) rfl ?_
  unfold fX12_quarrel at hf
  refine w_blk bX12_quarrel_0 [.ref 72, .int (0 : Int32), .retAddr 0, .retAddr 0] [] (sm_hp (sm_w1 m 72 0 (0 : Int32))) [] rfl (sm_on) ?_
  exact tX12_quarrel_7 sm_fu (0 : Int32) (sm_w1 m 72 0 (0 : Int32)) r hf
set_option maxRecDepth 10000 in
theorem tX12_keep_55 {l : Launch} {al : Bool} : ∀ (n : Nat) (v2 : Int32) (v3 : Int32) (m : sm_S) (r : Int32 × sm_S), fX12_keep_55 n v2 v3 m = some r → sm_W l mX12_keep 2 al (some (.int r.1), sm_hp r.2) 55 [.ref 72, .retAddr 0, .int v2, .int v3] [] (sm_hp m) := by
  intro n
  induction n with
  | zero =>
    intro v2 v3 m r hf
    unfold fX12_keep_55 at hf
    cases hf
  | succ n ih =>
    intro v2 v3 m r hf
    unfold fX12_keep_55 at hf
    refine w_blk bX12_keep_55 [.ref 72, .retAddr 0, .int v2, .int v3] [.int (14 : Int32), .int v3] (sm_hp m) [] rfl (sm_on) ?_
    refine w_icmp_ge (tgt := 95) dX12_keep_58 rfl (fun hc => ?_) (fun hc => ?_)
    · replace hf := sm_ift hc hf
      refine w_blk bX12_keep_95 [.ref 72, .retAddr 0, .int v2, .int v3] [.int (1 : Int32)] (sm_hp m) [] rfl (sm_on) ?_
      obtain rfl := Option.some.inj hf
      exact w_reti dX12_keep_96 rfl sm_nb1
    · replace hf := sm_iff hc hf
      refine w_blk bX12_keep_61 [.ref 72, .retAddr 0, .int v2, .int v3] [.int (m.1 72 6), .int v3, .int ((v2 + (2 : Int32)) + v3), .ref 106] (sm_hp m) [] rfl (sm_on) ?_
      refine w_icmp_ge (tgt := 87) dX12_keep_75 rfl (fun hc => ?_) (fun hc => ?_)
      · replace hf := sm_ift hc hf
        refine w_blk bX12_keep_87 [.ref 72, .retAddr 0, .int v2, .int v3] [.int (-1 : Int32), .int ((v2 + (2 : Int32)) + v3), .ref 106] (sm_hp m) [] rfl (sm_on) ?_
        replace hf := sm_ck hf
        obtain ⟨q6, hf⟩ := hf
        refine w_blk bX12_keep_88 [.ref 72, .retAddr 0, .int v2, .int (v3 + (1 : Int32))] [] (sm_hp (sm_w1 m 106 ((v2 + (2 : Int32)) + v3).toNatClampNeg (-1 : Int32))) [(((v2 + (2 : Int32)) + v3), 48)] rfl (sm_oc q6 (sm_on)) ?_
        refine w_goto (tgt := 55) dX12_keep_92 rfl ?_
        exact ih v2 (v3 + (1 : Int32)) (sm_w1 m 106 ((v2 + (2 : Int32)) + v3).toNatClampNeg (-1 : Int32)) r hf
      · replace hf := sm_iff hc hf
        replace hf := sm_ck hf
        obtain ⟨q7, hf⟩ := hf
        refine w_blk bX12_keep_78 [.ref 72, .retAddr 0, .int v2, .int v3] [.int (m.1 83 (v3).toNatClampNeg), .int ((v2 + (2 : Int32)) + v3), .ref 106] (sm_hp m) [(v3, 14)] rfl (sm_oc q7 (sm_on)) ?_
        refine w_goto (tgt := 88) dX12_keep_84 rfl ?_
        replace hf := sm_ck hf
        obtain ⟨q8, hf⟩ := hf
        refine w_blk bX12_keep_88 [.ref 72, .retAddr 0, .int v2, .int (v3 + (1 : Int32))] [] (sm_hp (sm_w1 m 106 ((v2 + (2 : Int32)) + v3).toNatClampNeg (m.1 83 (v3).toNatClampNeg))) [(((v2 + (2 : Int32)) + v3), 48)] rfl (sm_oc q8 (sm_on)) ?_
        refine w_goto (tgt := 55) dX12_keep_92 rfl ?_
        exact ih v2 (v3 + (1 : Int32)) (sm_w1 m 106 ((v2 + (2 : Int32)) + v3).toNatClampNeg (m.1 83 (v3).toNatClampNeg)) r hf
set_option maxRecDepth 10000 in
theorem tX12_keep {l : Launch} {al : Bool} (x1 : Int32) (m : sm_S) (r : Int32 × sm_S) (hf : fX12_keep x1 m = some r) : sm_Rt l mX12_keep 2 0 0 al al [.ref 72, .int x1] (sm_hp m) (some (.int r.1), sm_hp r.2) := by
  refine sm_Rt.ofW (L := [.ref 72, .int x1, .retAddr 0, .retAddr 0]) (by decide) (Nat.le_of_ble_eq_true rfl) rfl ?_
  unfold fX12_keep at hf
  refine w_blk bX12_keep_0 [.ref 72, .int x1, .retAddr 0, .retAddr 0] [.long (2 : Int64), .long (0 : Int64), .long (x1).toInt64] (sm_hp (sm_w1 m 72 0 (0 : Int32))) [] rfl (sm_on) ?_
  replace hf := sm_bd hf
  obtain ⟨r2, q1, hf⟩ := hf
  refine w_callS [.long (x1).toInt64, .long (0 : Int64), .long (2 : Int64)] [] (tX12_in (x1).toInt64 (0 : Int64) (2 : Int64) (sm_w1 m 72 0 (0 : Int32)) r2 q1) (csX12_17 rfl) dX12_keep_11 rfl rfl (by decide) (by decide) (Nat.le_of_ble_eq_true rfl) ?_
  show sm_W _ _ _ _ _ 14 [.ref 72, .int x1, .retAddr 0, .retAddr 0] [.int r2] (sm_hp (sm_w1 m 72 0 (0 : Int32)))
  refine w_if_ne (tgt := 19) dX12_keep_14 rfl (fun hc => ?_) (fun hc => ?_)
  · replace hf := sm_iff hc hf
    replace hf := sm_ck hf
    obtain ⟨q3, hf⟩ := hf
    replace hf := sm_ck hf
    obtain ⟨q4, hf⟩ := hf
    replace hf := sm_ck hf
    obtain ⟨q5, hf⟩ := hf
    refine w_blk bX12_keep_19 [.ref 72, .int x1, .int ((16 : Int32) * x1), .int (0 : Int32)] [] (sm_hp (sm_w1 (sm_w1 (sm_w1 (sm_w1 m 72 0 (0 : Int32)) 105 (x1).toNatClampNeg (vp_nar .boolean (1 : Int32))) 106 ((16 : Int32) * x1).toNatClampNeg (m.1 72 17)) 106 (((16 : Int32) * x1) + (1 : Int32)).toNatClampNeg (m.1 72 18))) [(x1, 3), (((16 : Int32) * x1), 48), ((((16 : Int32) * x1) + (1 : Int32)), 48)] rfl (sm_oc q3 (sm_oc q4 (sm_oc q5 (sm_on)))) ?_
    refine w_wk [true, false, true, true] ?_
    exact tX12_keep_55 sm_fu ((16 : Int32) * x1) (0 : Int32) (sm_w1 (sm_w1 (sm_w1 (sm_w1 m 72 0 (0 : Int32)) 105 (x1).toNatClampNeg (vp_nar .boolean (1 : Int32))) 106 ((16 : Int32) * x1).toNatClampNeg (m.1 72 17)) 106 (((16 : Int32) * x1) + (1 : Int32)).toNatClampNeg (m.1 72 18)) r hf
  · replace hf := sm_ift hc hf
    refine w_blk bX12_keep_17 [.ref 72, .int x1, .retAddr 0, .retAddr 0] [.int (0 : Int32)] (sm_hp (sm_w1 m 72 0 (0 : Int32))) [] rfl (sm_on) ?_
    obtain rfl := Option.some.inj hf
    exact w_reti dX12_keep_18 rfl sm_nb0
set_option maxRecDepth 10000 in
theorem tX12_again_57 {l : Launch} {al : Bool} : ∀ (n : Nat) (v2 : Int32) (v3 : Int32) (m : sm_S) (r : Int32 × sm_S), fX12_again_57 n v2 v3 m = some r → sm_W l mX12_again 2 al (some (.int r.1), sm_hp r.2) 57 [.ref 72, .retAddr 0, .int v2, .int v3] [] (sm_hp m) := by
  intro n
  induction n with
  | zero =>
    intro v2 v3 m r hf
    unfold fX12_again_57 at hf
    cases hf
  | succ n ih =>
    intro v2 v3 m r hf
    unfold fX12_again_57 at hf
    refine w_blk bX12_again_57 [.ref 72, .retAddr 0, .int v2, .int v3] [.int (14 : Int32), .int v3] (sm_hp m) [] rfl (sm_on) ?_
    refine w_icmp_ge (tgt := 85) dX12_again_60 rfl (fun hc => ?_) (fun hc => ?_)
    · replace hf := sm_ift hc hf
      refine w_blk bX12_again_85 [.ref 72, .retAddr 0, .int v2, .int v3] [.int (1 : Int32)] (sm_hp (sm_w1 m 72 27 (0 : Int32))) [] rfl (sm_on) ?_
      obtain rfl := Option.some.inj hf
      exact w_reti dX12_again_91 rfl sm_nb1
    · replace hf := sm_iff hc hf
      replace hf := sm_ck hf
      obtain ⟨q6, hf⟩ := hf
      replace hf := sm_ck hf
      obtain ⟨q7, hf⟩ := hf
      refine w_blk bX12_again_63 [.ref 72, .retAddr 0, .int v2, .int (v3 + (1 : Int32))] [] (sm_hp (sm_w1 m 83 (v3).toNatClampNeg (m.1 106 ((v2 + (2 : Int32)) + v3).toNatClampNeg))) [(((v2 + (2 : Int32)) + v3), 48), (v3, 14)] rfl (sm_oc q6 (sm_oc q7 (sm_on))) ?_
      refine w_goto (tgt := 57) dX12_again_82 rfl ?_
      exact ih v2 (v3 + (1 : Int32)) (sm_w1 m 83 (v3).toNatClampNeg (m.1 106 ((v2 + (2 : Int32)) + v3).toNatClampNeg)) r hf
