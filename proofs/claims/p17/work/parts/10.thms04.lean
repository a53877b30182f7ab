set_option maxRecDepth 10000 in
theorem tX1_fewestMinutes_46 {l : Launch} {al : Bool} (k28 : Int32 → Int32 → Int32 → sm_S → Option (Int32 × sm_S)) (hk28 : ∀ (v2 : Int32) (v3 : Int32) (v4 : Int32) (m : sm_S) (r : Int32 × sm_S), k28 v2 v3 v4 m = some r → sm_W l mX1_fewestMinutes 4 al (some (.int r.1), sm_hp r.2) 28 [.ref 34, .ref 3, .int v2, .int v3, .int v4, .retAddr 0, .retAddr 0] [] (sm_hp m)) : ∀ (n : Nat) (v2 : Int32) (v3 : Int32) (v4 : Int32) (v5 : Int32) (v6 : Int32) (m : sm_S) (r : Int32 × sm_S), fX1_fewestMinutes_46 k28 n v2 v3 v4 v5 v6 m = some r → sm_W l mX1_fewestMinutes 4 al (some (.int r.1), sm_hp r.2) 46 [.ref 34, .ref 3, .int v2, .int v3, .int v4, .int v5, .int v6] [] (sm_hp m) := by
  intro n
  induction n with
  | zero =>
    intro v2 v3 v4 v5 v6 m r hf
    unfold fX1_fewestMinutes_46 at hf
    cases hf
  | succ n ih =>
    intro v2 v3 v4 v5 v6 m r hf
    unfold fX1_fewestMinutes_46 at hf
    refine w_blk bX1_fewestMinutes_46 [.ref 34, .ref 3, .int v2, .int v3, .int v4, .int v5, .int v6] [.int (m.1 3 0), .int v6] (sm_hp m) [] rfl (sm_on) ?_
    refine w_icmp_ge (tgt := 107) dX1_fewestMinutes_52 rfl (fun hc => ?_) (fun hc => ?_)
    · replace hf := sm_ift hc hf
      refine w_blk bX1_fewestMinutes_107 [.ref 34, .ref 3, .int v2, .int v3, .int (v4 + (-1 : Int32)), .int v5, .int v6] [] (sm_hp m) [] rfl (sm_on) ?_
      refine w_goto (tgt := 28) dX1_fewestMinutes_110 rfl ?_
      refine w_wk [true, true, true, true, true, false, false] ?_
      exact hk28 v2 v3 (v4 + (-1 : Int32)) m r hf
    · replace hf := sm_iff hc hf
      replace hf := sm_ck hf
      obtain ⟨q11, hf⟩ := hf
      refine w_blk bX1_fewestMinutes_55 [.ref 34, .ref 3, .int v2, .int v3, .int v4, .int v5, .int v6] [.int v5, .int (m.1 36 (v6).toNatClampNeg)] (sm_hp m) [(v6, 10)] rfl (sm_oc q11 (sm_on)) ?_
      refine w_icmp_ne (tgt := 101) dX1_fewestMinutes_64 rfl (fun hc => ?_) (fun hc => ?_)
      · replace hf := sm_iff hc hf
        refine w_blk bX1_fewestMinutes_101 [.ref 34, .ref 3, .int v2, .int v3, .int v4, .int v5, .int (v6 + (1 : Int32))] [] (sm_hp m) [] rfl (sm_on) ?_
        refine w_goto (tgt := 46) dX1_fewestMinutes_104 rfl ?_
        exact ih v2 v3 v4 v5 (v6 + (1 : Int32)) m r hf
      · replace hf := sm_ift hc hf
        refine w_blk bX1_fewestMinutes_67 [.ref 34, .ref 3, .int v2, .int v3, .int v4, .int v5, .int v6] [.int v6, .int v4, .ref 34, .ref 49] (sm_hp m) [] rfl (sm_on) ?_
        replace hf := sm_bd hf
        obtain ⟨r13, q12, hf⟩ := hf
        refine w_callV [.int v4, .int v6] [.ref 49] (tX1_placeOf v4 v6 m r13 q12) (cvX1_90 rfl) dX1_fewestMinutes_76 rfl rfl (by decide) (by decide) rfl (Nat.le_of_ble_eq_true rfl) ?_
        show sm_W _ _ _ _ _ 79 [.ref 34, .ref 3, .int v2, .int v3, .int v4, .int v5, .int v6] [.int r13, .ref 49] (sm_hp m)
        refine w_blk bX1_fewestMinutes_79 [.ref 34, .ref 3, .int v2, .int v3, .int v4, .int v5, .int v6] [.int v3, .int v4, .int r13, .ref 49] (sm_hp m) [] rfl (sm_on) ?_
        refine w_icmp_ne (tgt := 89) dX1_fewestMinutes_82 rfl (fun hc => ?_) (fun hc => ?_)
        · replace hf := sm_iff hc hf
          refine w_blk bX1_fewestMinutes_89 [.ref 34, .ref 3, .int v2, .int v3, .int v4, .int v5, .int v6] [.int v6, .int v4, .ref 3, .ref 34, .int r13, .ref 49] (sm_hp m) [] rfl (sm_on) ?_
          replace hf := sm_bd hf
          obtain ⟨r15, q14, hf⟩ := hf
          refine w_callV [.ref 3, .int v4, .int v6] [.int r13, .ref 49] (tX1_bestOn v4 v6 m r15 q14) (cvX1_93 rfl) dX1_fewestMinutes_95 rfl rfl (by decide) (by decide) rfl (Nat.le_of_ble_eq_true rfl) ?_
          show sm_W _ _ _ _ _ 98 [.ref 34, .ref 3, .int v2, .int v3, .int v4, .int v5, .int v6] [.int r15, .int r13, .ref 49] (sm_hp m)
          replace hf := sm_bd hf
          obtain ⟨m17, q16, hf⟩ := hf
          refine w_callV [.int r13, .int r15] [] (tX3_put_i2 r13 r15 m m17 q16) (cvX1_96 rfl) dX1_fewestMinutes_98 rfl rfl (by decide) (by decide) rfl (Nat.le_of_ble_eq_true rfl) ?_
          show sm_W _ _ _ _ _ 101 [.ref 34, .ref 3, .int v2, .int v3, .int v4, .int v5, .int v6] [] (sm_hp m17)
          refine w_blk bX1_fewestMinutes_101 [.ref 34, .ref 3, .int v2, .int v3, .int v4, .int v5, .int (v6 + (1 : Int32))] [] (sm_hp m17) [] rfl (sm_on) ?_
          refine w_goto (tgt := 46) dX1_fewestMinutes_104 rfl ?_
          exact ih v2 v3 v4 v5 (v6 + (1 : Int32)) m17 r hf
        · replace hf := sm_ift hc hf
          refine w_blk bX1_fewestMinutes_85 [.ref 34, .ref 3, .int v2, .int v3, .int v4, .int v5, .int v6] [.int (0 : Int32), .int r13, .ref 49] (sm_hp m) [] rfl (sm_on) ?_
          refine w_goto (tgt := 98) dX1_fewestMinutes_86 rfl ?_
          replace hf := sm_bd hf
          obtain ⟨m19, q18, hf⟩ := hf
          refine w_callV [.int r13, .int (0 : Int32)] [] (tX3_put_i2 r13 (0 : Int32) m m19 q18) (cvX1_96 rfl) dX1_fewestMinutes_98 rfl rfl (by decide) (by decide) rfl (Nat.le_of_ble_eq_true rfl) ?_
          show sm_W _ _ _ _ _ 101 [.ref 34, .ref 3, .int v2, .int v3, .int v4, .int v5, .int v6] [] (sm_hp m19)
          refine w_blk bX1_fewestMinutes_101 [.ref 34, .ref 3, .int v2, .int v3, .int v4, .int v5, .int (v6 + (1 : Int32))] [] (sm_hp m19) [] rfl (sm_on) ?_
          refine w_goto (tgt := 46) dX1_fewestMinutes_104 rfl ?_
          exact ih v2 v3 v4 v5 (v6 + (1 : Int32)) m19 r hf
set_option maxRecDepth 10000 in
theorem tX1_fewestMinutes_28 {l : Launch} {al : Bool} : ∀ (n : Nat) (v2 : Int32) (v3 : Int32) (v4 : Int32) (m : sm_S) (r : Int32 × sm_S), fX1_fewestMinutes_28 n v2 v3 v4 m = some r → sm_W l mX1_fewestMinutes 4 al (some (.int r.1), sm_hp r.2) 28 [.ref 34, .ref 3, .int v2, .int v3, .int v4, .retAddr 0, .retAddr 0] [] (sm_hp m) := by
  intro n
  induction n with
  | zero =>
    intro v2 v3 v4 m r hf
    unfold fX1_fewestMinutes_28 at hf
    cases hf
  | succ n ih =>
    intro v2 v3 v4 m r hf
    unfold fX1_fewestMinutes_28 at hf
    refine w_blk bX1_fewestMinutes_28 [.ref 34, .ref 3, .int v2, .int v3, .int v4, .retAddr 0, .retAddr 0] [.int v4] (sm_hp m) [] rfl (sm_on) ?_
    refine w_if_lt (tgt := 113) dX1_fewestMinutes_30 rfl (fun hc => ?_) (fun hc => ?_)
    · replace hf := sm_ift hc hf
      refine w_blk bX1_fewestMinutes_113 [.ref 34, .ref 3, .int v2, .int v3, .int v4, .retAddr 0, .retAddr 0] [.int v2, .int (0 : Int32), .ref 34, .ref 49] (sm_hp m) [] rfl (sm_on) ?_
      replace hf := sm_bd hf
      obtain ⟨r6, q5, hf⟩ := hf
      refine w_callV [.int (0 : Int32), .int v2] [.ref 49] (tX1_placeOf (0 : Int32) v2 m r6 q5) (cvX1_90 rfl) dX1_fewestMinutes_120 rfl rfl (by decide) (by decide) rfl (Nat.le_of_ble_eq_true rfl) ?_
      show sm_W _ _ _ _ _ 123 [.ref 34, .ref 3, .int v2, .int v3, .int v4, .retAddr 0, .retAddr 0] [.int r6, .ref 49] (sm_hp m)
      replace hf := sm_bd hf
      obtain ⟨r8, q7, hf⟩ := hf
      refine w_callV [.int r6] [] (tX3_at_i2 r6 m r8 q7) (cvX1_100 rfl) dX1_fewestMinutes_123 rfl rfl (by decide) (by decide) rfl (Nat.le_of_ble_eq_true rfl) ?_
      show sm_W _ _ _ _ _ 126 [.ref 34, .ref 3, .int v2, .int v3, .int v4, .retAddr 0, .retAddr 0] [.int r8] (sm_hp m)
      refine w_blk bX1_fewestMinutes_126 [.ref 34, .ref 3, .int v2, .int v3, .int r8, .retAddr 0, .retAddr 0] [.int (65535 : Int32), .int r8] (sm_hp m) [] rfl (sm_on) ?_
      refine w_icmp_ge (tgt := 140) dX1_fewestMinutes_132 rfl (fun hc => ?_) (fun hc => ?_)
      · replace hf := sm_ift hc hf
        refine w_blk bX1_fewestMinutes_140 [.ref 34, .ref 3, .int v2, .int v3, .int r8, .retAddr 0, .retAddr 0] [.int (-1 : Int32)] (sm_hp m) [] rfl (sm_on) ?_
        obtain rfl := Option.some.inj hf
        exact w_reti dX1_fewestMinutes_141 rfl rfl
      · replace hf := sm_iff hc hf
        refine w_blk bX1_fewestMinutes_135 [.ref 34, .ref 3, .int v2, .int v3, .int r8, .retAddr 0, .retAddr 0] [.int r8] (sm_hp m) [] rfl (sm_on) ?_
        refine w_goto (tgt := 141) dX1_fewestMinutes_137 rfl ?_
        obtain rfl := Option.some.inj hf
        exact w_reti dX1_fewestMinutes_141 rfl rfl
    · replace hf := sm_iff hc hf
      refine w_blk bX1_fewestMinutes_33 [.ref 34, .ref 3, .int v2, .int v3, .int v4, .retAddr 0, .retAddr 0] [.int v4, .int v2, .ref 3, .ref 34] (sm_hp m) [] rfl (sm_on) ?_
      replace hf := sm_bd hf
      obtain ⟨r10, q9, hf⟩ := hf
      refine w_callV [.ref 3, .int v2, .int v4] [] (tX1_partAfter v2 v4 m r10 q9) (cvX1_80 rfl) dX1_fewestMinutes_38 rfl rfl (by decide) (by decide) rfl (Nat.le_of_ble_eq_true rfl) ?_
      show sm_W _ _ _ _ _ 41 [.ref 34, .ref 3, .int v2, .int v3, .int v4, .retAddr 0, .retAddr 0] [.int r10] (sm_hp m)
      refine w_blk bX1_fewestMinutes_41 [.ref 34, .ref 3, .int v2, .int v3, .int v4, .int r10, .int (0 : Int32)] [] (sm_hp m) [] rfl (sm_on) ?_
      exact tX1_fewestMinutes_46 (fX1_fewestMinutes_28 n) ih sm_fu v2 v3 v4 r10 (0 : Int32) m r hf
set_option maxRecDepth 10000 in
theorem tX1_fewestMinutes {l : Launch} {al : Bool} (x1 : Int32) (m : sm_S) (r : Int32 × sm_S) (hf : fX1_fewestMinutes x1 m = some r) : sm_Rt l mX1_fewestMinutes 4 0 0 al al [.ref 34, .ref 3, .int x1] (sm_hp m) (some (.int r.1), sm_hp r.2) := by
  refine sm_Rt.ofW (L := [.ref 34, .ref 3, .int x1, .retAddr 0, .retAddr 0, .retAddr 0, .retAddr 0]) (by decide) (Nat.le_of_ble_eq_true rfl) rfl ?_
  unfold fX1_fewestMinutes at hf
  refine w_blk bX1_fewestMinutes_0 [.ref 34, .ref 3, .int x1, .int (((1 : Int32) <<< ((m.1 34 1) &&& 31)) - (1 : Int32)), .retAddr 0, .retAddr 0, .retAddr 0] [.int (((1 : Int32) <<< ((m.1 34 1) &&& 31)) - (1 : Int32)), .int x1, .ref 3, .ref 34] (sm_hp m) [] rfl (sm_on) ?_
  replace hf := sm_bd hf
  obtain ⟨r2, q1, hf⟩ := hf
  refine w_callV [.ref 3, .int x1, .int (((1 : Int32) <<< ((m.1 34 1) &&& 31)) - (1 : Int32))] [] (tX1_partAfter x1 (((1 : Int32) <<< ((m.1 34 1) &&& 31)) - (1 : Int32)) m r2 q1) (cvX1_80 rfl) dX1_fewestMinutes_13 rfl rfl (by decide) (by decide) rfl (Nat.le_of_ble_eq_true rfl) ?_
  show sm_W _ _ _ _ _ 16 [.ref 34, .ref 3, .int x1, .int (((1 : Int32) <<< ((m.1 34 1) &&& 31)) - (1 : Int32)), .retAddr 0, .retAddr 0, .retAddr 0] [.int r2] (sm_hp m)
  replace hf := sm_bd hf
  obtain ⟨r4, q3, hf⟩ := hf
  refine w_callS [.int r2] [] (tJ6_bitCount_0f7a4 r2 m r4 q3) (csX1_84 rfl) dX1_fewestMinutes_16 rfl rfl (by decide) (by decide) (Nat.le_of_ble_eq_true rfl) ?_
  show sm_W _ _ _ _ _ 19 [.ref 34, .ref 3, .int x1, .int (((1 : Int32) <<< ((m.1 34 1) &&& 31)) - (1 : Int32)), .retAddr 0, .retAddr 0, .retAddr 0] [.int r4] (sm_hp m)
  refine w_blk bX1_fewestMinutes_19 [.ref 34, .ref 3, .int x1, .int (((1 : Int32) <<< ((m.1 34 1) &&& 31)) - (1 : Int32)), .retAddr 0, .retAddr 0, .retAddr 0] [.int (1 : Int32), .int r4] (sm_hp m) [] rfl (sm_on) ?_
  refine w_icmp_eq (tgt := 25) dX1_fewestMinutes_20 rfl (fun hc => ?_) (fun hc => ?_)
  · replace hf := sm_ift hc hf
    refine w_blk bX1_fewestMinutes_25 [.ref 34, .ref 3, .int x1, .int (((1 : Int32) <<< ((m.1 34 1) &&& 31)) - (1 : Int32)), .int (((1 : Int32) <<< ((m.1 34 1) &&& 31)) - (1 : Int32)), .retAddr 0, .retAddr 0] [] (sm_hp m) [] rfl (sm_on) ?_
    exact tX1_fewestMinutes_28 sm_fu x1 (((1 : Int32) <<< ((m.1 34 1) &&& 31)) - (1 : Int32)) (((1 : Int32) <<< ((m.1 34 1) &&& 31)) - (1 : Int32)) m r hf
  · replace hf := sm_iff hc hf
    refine w_blk bX1_fewestMinutes_23 [.ref 34, .ref 3, .int x1, .int (((1 : Int32) <<< ((m.1 34 1) &&& 31)) - (1 : Int32)), .retAddr 0, .retAddr 0, .retAddr 0] [.int (-1 : Int32)] (sm_hp m) [] rfl (sm_on) ?_
    obtain rfl := Option.some.inj hf
    exact w_reti dX1_fewestMinutes_24 rfl rfl
set_option maxRecDepth 10000 in
theorem tX1_endsOfBest_15 {l : Launch} {al : Bool} : ∀ (n : Nat) (v2 : Int32) (v3 : Int32) (v4 : Int32) (v5 : Int32) (v6 : Int32) (v7 : Int32) (m : sm_S) (r : Int32), fX1_endsOfBest_15 n v2 v3 v4 v5 v6 v7 m = some r → sm_W l mX1_endsOfBest 3 al (some (.int r), sm_hp m) 15 [.ref 34, .ref 3, .int v2, .int v3, .int v4, .int v5, .int v6, .int v7, .retAddr 0] [] (sm_hp m) := by
  intro n
  induction n with
  | zero =>
    intro v2 v3 v4 v5 v6 v7 m r hf
    unfold fX1_endsOfBest_15 at hf
    cases hf
  | succ n ih =>
    intro v2 v3 v4 v5 v6 v7 m r hf
    unfold fX1_endsOfBest_15 at hf
    refine w_blk bX1_endsOfBest_15 [.ref 34, .ref 3, .int v2, .int v3, .int v4, .int v5, .int v6, .int v7, .retAddr 0] [.int (m.1 3 0), .int v7] (sm_hp m) [] rfl (sm_on) ?_
    refine w_icmp_ge (tgt := 127) dX1_endsOfBest_21 rfl (fun hc => ?_) (fun hc => ?_)
    · replace hf := sm_ift hc hf
      refine w_blk bX1_endsOfBest_127 [.ref 34, .ref 3, .int v2, .int v3, .int v4, .int v5, .int v6, .int v7, .retAddr 0] [.int v6] (sm_hp m) [] rfl (sm_on) ?_
      obtain rfl := Option.some.inj hf
      exact w_reti dX1_endsOfBest_129 rfl rfl
    · replace hf := sm_iff hc hf
      refine w_blk bX1_endsOfBest_24 [.ref 34, .ref 3, .int v2, .int v3, .int v4, .int v5, .int v6, .int v7, .retAddr 0] [.int ((v3 >>> (v7 &&& 31)) &&& (1 : Int32))] (sm_hp m) [] rfl (sm_on) ?_
      refine w_if_eq (tgt := 121) dX1_endsOfBest_30 rfl (fun hc => ?_) (fun hc => ?_)
      · replace hf := sm_ift hc hf
        refine w_blk bX1_endsOfBest_121 [.ref 34, .ref 3, .int v2, .int v3, .int v4, .int v5, .int v6, .int (v7 + (1 : Int32)), .retAddr 0] [] (sm_hp m) [] rfl (sm_on) ?_
        refine w_goto (tgt := 15) dX1_endsOfBest_124 rfl ?_
        exact ih v2 v3 v4 v5 v6 (v7 + (1 : Int32)) m r hf
      · replace hf := sm_iff hc hf
        refine w_blk bX1_endsOfBest_33 [.ref 34, .ref 3, .int v2, .int v3, .int v4, .int v5, .int v6, .int v7, .retAddr 0] [.int v7, .int v2, .ref 34, .ref 49] (sm_hp m) [] rfl (sm_on) ?_
        replace hf := sm_bd hf
        obtain ⟨r3, q2, hf⟩ := hf
        refine w_callV [.int v2, .int v7] [.ref 49] (tX1_placeOf v2 v7 m r3 q2) (cvX1_90 rfl) dX1_endsOfBest_41 rfl rfl (by decide) (by decide) rfl (Nat.le_of_ble_eq_true rfl) ?_
        show sm_W _ _ _ _ _ 44 [.ref 34, .ref 3, .int v2, .int v3, .int v4, .int v5, .int v6, .int v7, .retAddr 0] [.int r3, .ref 49] (sm_hp m)
        replace hf := sm_bd hf
        obtain ⟨r5, q4, hf⟩ := hf
        refine w_callV [.int r3] [] (tX3_at_i2 r3 m r5 q4) (cvX1_100 rfl) dX1_endsOfBest_44 rfl rfl (by decide) (by decide) rfl (Nat.le_of_ble_eq_true rfl) ?_
        show sm_W _ _ _ _ _ 47 [.ref 34, .ref 3, .int v2, .int v3, .int v4, .int v5, .int v6, .int v7, .retAddr 0] [.int r5] (sm_hp m)
        replace hf := sm_ck hf
        obtain ⟨q6, hf⟩ := hf
        refine w_blk bX1_endsOfBest_47 [.ref 34, .ref 3, .int v2, .int v3, .int v4, .int v5, .int v6, .int v7, .int r5] [.int (m.1 6 (v5).toNatClampNeg), .int v4, .int v7, .int v2, .ref 3, .ref 34] (sm_hp m) [(v5, 14)] rfl (sm_oc q6 (sm_on)) ?_
        replace hf := sm_bd hf
        obtain ⟨r8, q7, hf⟩ := hf
        refine w_callV [.ref 3, .int v2, .int v7, .int v4, .int (m.1 6 (v5).toNatClampNeg)] [] (tX1_minutesBy v2 v7 v4 (m.1 6 (v5).toNatClampNeg) m r8 q7) (cvX1_103 rfl) dX1_endsOfBest_63 rfl rfl (by decide) (by decide) rfl (Nat.le_of_ble_eq_true rfl) ?_
        show sm_W _ _ _ _ _ 66 [.ref 34, .ref 3, .int v2, .int v3, .int v4, .int v5, .int v6, .int v7, .int r5] [.int r8] (sm_hp m)
        refine w_blk bX1_endsOfBest_66 [.ref 34, .ref 3, .int v2, .int v3, .int v4, .int v5, .int v6, .int v7, .int r5] [.int r5, .int r8] (sm_hp m) [] rfl (sm_on) ?_
        refine w_icmp_ne (tgt := 85) dX1_endsOfBest_68 rfl (fun hc => ?_) (fun hc => ?_)
        · replace hf := sm_iff hc hf
          replace hf := sm_ck hf
          obtain ⟨q9, hf⟩ := hf
          refine w_blk bX1_endsOfBest_85 [.ref 34, .ref 3, .int v2, .int v3, .int v4, .int v5, .int v6, .int v7, .int r5] [.int (m.1 7 (v5).toNatClampNeg), .int v4, .int v7, .int v2, .ref 3, .ref 34] (sm_hp m) [(v5, 14)] rfl (sm_oc q9 (sm_on)) ?_
          replace hf := sm_bd hf
          obtain ⟨r11, q10, hf⟩ := hf
          refine w_callV [.ref 3, .int v2, .int v7, .int v4, .int (m.1 7 (v5).toNatClampNeg)] [] (tX1_minutesBy v2 v7 v4 (m.1 7 (v5).toNatClampNeg) m r11 q10) (cvX1_103 rfl) dX1_endsOfBest_99 rfl rfl (by decide) (by decide) rfl (Nat.le_of_ble_eq_true rfl) ?_
          show sm_W _ _ _ _ _ 102 [.ref 34, .ref 3, .int v2, .int v3, .int v4, .int v5, .int v6, .int v7, .int r5] [.int r11] (sm_hp m)
          refine w_blk bX1_endsOfBest_102 [.ref 34, .ref 3, .int v2, .int v3, .int v4, .int v5, .int v6, .int v7, .int r5] [.int r5, .int r11] (sm_hp m) [] rfl (sm_on) ?_
          refine w_icmp_ne (tgt := 121) dX1_endsOfBest_104 rfl (fun hc => ?_) (fun hc => ?_)
          · replace hf := sm_iff hc hf
            refine w_blk bX1_endsOfBest_121 [.ref 34, .ref 3, .int v2, .int v3, .int v4, .int v5, .int v6, .int (v7 + (1 : Int32)), .int r5] [] (sm_hp m) [] rfl (sm_on) ?_
            refine w_goto (tgt := 15) dX1_endsOfBest_124 rfl ?_
            refine w_wk [true, true, true, true, true, true, true, true, false] ?_
            exact ih v2 v3 v4 v5 v6 (v7 + (1 : Int32)) m r hf
          · replace hf := sm_ift hc hf
            replace hf := sm_ck hf
            obtain ⟨q12, hf⟩ := hf
            refine w_blk bX1_endsOfBest_107 [.ref 34, .ref 3, .int v2, .int v3, .int v4, .int v5, .int (v6 ||| ((1 : Int32) <<< ((m.1 6 (v5).toNatClampNeg) &&& 31))), .int v7, .int r5] [] (sm_hp m) [(v5, 14)] rfl (sm_oc q12 (sm_on)) ?_
            refine w_blk bX1_endsOfBest_121 [.ref 34, .ref 3, .int v2, .int v3, .int v4, .int v5, .int (v6 ||| ((1 : Int32) <<< ((m.1 6 (v5).toNatClampNeg) &&& 31))), .int (v7 + (1 : Int32)), .int r5] [] (sm_hp m) [] rfl (sm_on) ?_
            refine w_goto (tgt := 15) dX1_endsOfBest_124 rfl ?_
            refine w_wk [true, true, true, true, true, true, true, true, false] ?_
            exact ih v2 v3 v4 v5 (v6 ||| ((1 : Int32) <<< ((m.1 6 (v5).toNatClampNeg) &&& 31))) (v7 + (1 : Int32)) m r hf
        · replace hf := sm_ift hc hf
          replace hf := sm_ck hf
          obtain ⟨q13, hf⟩ := hf
          refine w_blk bX1_endsOfBest_71 [.ref 34, .ref 3, .int v2, .int v3, .int v4, .int v5, .int (v6 ||| ((1 : Int32) <<< ((m.1 7 (v5).toNatClampNeg) &&& 31))), .int v7, .int r5] [] (sm_hp m) [(v5, 14)] rfl (sm_oc q13 (sm_on)) ?_
          replace hf := sm_ck hf
          obtain ⟨q14, hf⟩ := hf
          refine w_blk bX1_endsOfBest_85 [.ref 34, .ref 3, .int v2, .int v3, .int v4, .int v5, .int (v6 ||| ((1 : Int32) <<< ((m.1 7 (v5).toNatClampNeg) &&& 31))), .int v7, .int r5] [.int (m.1 7 (v5).toNatClampNeg), .int v4, .int v7, .int v2, .ref 3, .ref 34] (sm_hp m) [(v5, 14)] rfl (sm_oc q14 (sm_on)) ?_
          replace hf := sm_bd hf
          obtain ⟨r16, q15, hf⟩ := hf
          refine w_callV [.ref 3, .int v2, .int v7, .int v4, .int (m.1 7 (v5).toNatClampNeg)] [] (tX1_minutesBy v2 v7 v4 (m.1 7 (v5).toNatClampNeg) m r16 q15) (cvX1_103 rfl) dX1_endsOfBest_99 rfl rfl (by decide) (by decide) rfl (Nat.le_of_ble_eq_true rfl) ?_
          show sm_W _ _ _ _ _ 102 [.ref 34, .ref 3, .int v2, .int v3, .int v4, .int v5, .int (v6 ||| ((1 : Int32) <<< ((m.1 7 (v5).toNatClampNeg) &&& 31))), .int v7, .int r5] [.int r16] (sm_hp m)
          refine w_blk bX1_endsOfBest_102 [.ref 34, .ref 3, .int v2, .int v3, .int v4, .int v5, .int (v6 ||| ((1 : Int32) <<< ((m.1 7 (v5).toNatClampNeg) &&& 31))), .int v7, .int r5] [.int r5, .int r16] (sm_hp m) [] rfl (sm_on) ?_
          refine w_icmp_ne (tgt := 121) dX1_endsOfBest_104 rfl (fun hc => ?_) (fun hc => ?_)
          · replace hf := sm_iff hc hf
            refine w_blk bX1_endsOfBest_121 [.ref 34, .ref 3, .int v2, .int v3, .int v4, .int v5, .int (v6 ||| ((1 : Int32) <<< ((m.1 7 (v5).toNatClampNeg) &&& 31))), .int (v7 + (1 : Int32)), .int r5] [] (sm_hp m) [] rfl (sm_on) ?_
            refine w_goto (tgt := 15) dX1_endsOfBest_124 rfl ?_
            refine w_wk [true, true, true, true, true, true, true, true, false] ?_
            exact ih v2 v3 v4 v5 (v6 ||| ((1 : Int32) <<< ((m.1 7 (v5).toNatClampNeg) &&& 31))) (v7 + (1 : Int32)) m r hf
          · replace hf := sm_ift hc hf
            replace hf := sm_ck hf
            obtain ⟨q17, hf⟩ := hf
            refine w_blk bX1_endsOfBest_107 [.ref 34, .ref 3, .int v2, .int v3, .int v4, .int v5, .int ((v6 ||| ((1 : Int32) <<< ((m.1 7 (v5).toNatClampNeg) &&& 31))) ||| ((1 : Int32) <<< ((m.1 6 (v5).toNatClampNeg) &&& 31))), .int v7, .int r5] [] (sm_hp m) [(v5, 14)] rfl (sm_oc q17 (sm_on)) ?_
            refine w_blk bX1_endsOfBest_121 [.ref 34, .ref 3, .int v2, .int v3, .int v4, .int v5, .int ((v6 ||| ((1 : Int32) <<< ((m.1 7 (v5).toNatClampNeg) &&& 31))) ||| ((1 : Int32) <<< ((m.1 6 (v5).toNatClampNeg) &&& 31))), .int (v7 + (1 : Int32)), .int r5] [] (sm_hp m) [] rfl (sm_on) ?_
            refine w_goto (tgt := 15) dX1_endsOfBest_124 rfl ?_
            refine w_wk [true, true, true, true, true, true, true, true, false] ?_
            exact ih v2 v3 v4 v5 ((v6 ||| ((1 : Int32) <<< ((m.1 7 (v5).toNatClampNeg) &&& 31))) ||| ((1 : Int32) <<< ((m.1 6 (v5).toNatClampNeg) &&& 31))) (v7 + (1 : Int32)) m r hf
set_option maxRecDepth 10000 in
theorem tX1_endsOfBest {l : Launch} {al : Bool} (x1 : Int32) (x2 : Int32) (x3 : Int32) (m : sm_S) (r : Int32) (hf : fX1_endsOfBest x1 x2 x3 m = some r) : sm_Rt l mX1_endsOfBest 3 0 0 al al [.ref 34, .ref 3, .int x1, .int x2, .int x3] (sm_hp m) (some (.int r), sm_hp m) := by
  refine sm_Rt.ofW (L := [.ref 34, .ref 3, .int x1, .int x2, .int x3, .retAddr 0, .retAddr 0, .retAddr 0, .retAddr 0]) (by decide) (Nat.le_of_ble_eq_true rfl) rfl ?_
  unfold fX1_endsOfBest at hf
  replace hf := sm_ck hf
  obtain ⟨q1, hf⟩ := hf
  refine w_blk bX1_endsOfBest_0 [.ref 34, .ref 3, .int x1, .int x2, .int x3, .int (m.1 35 (x3).toNatClampNeg), .int (0 : Int32), .int (0 : Int32), .retAddr 0] [] (sm_hp m) [(x3, 14)] rfl (sm_oc q1 (sm_on)) ?_
  exact tX1_endsOfBest_15 sm_fu x1 x2 x3 (m.1 35 (x3).toNatClampNeg) (0 : Int32) (0 : Int32) m r hf
set_option maxRecDepth 10000 in
theorem tX1_tellLeastOrder_30 {l : Launch} {al : Bool} (k15 : Int32 → Int32 → Int32 → sm_S → Option (sm_S)) (hk15 : ∀ (v4 : Int32) (v5 : Int32) (v6 : Int32) (m : sm_S) (r : sm_S), k15 v4 v5 v6 m = some r → sm_W l mX1_tellLeastOrder 4 al (none, sm_hp r) 15 [.ref 34, .ref 3, .retAddr 0, .ref 14, .int v4, .int v5, .int v6, .retAddr 0, .retAddr 0, .retAddr 0] [] (sm_hp m)) : ∀ (n : Nat) (v4 : Int32) (v5 : Int32) (v6 : Int32) (v7 : Int32) (v8 : Int32) (m : sm_S) (r : sm_S), fX1_tellLeastOrder_30 k15 n v4 v5 v6 v7 v8 m = some r → sm_W l mX1_tellLeastOrder 4 al (none, sm_hp r) 30 [.ref 34, .ref 3, .retAddr 0, .ref 14, .int v4, .int v5, .int v6, .int v7, .int v8, .retAddr 0] [] (sm_hp m) := by
  intro n
  induction n with
  | zero =>
    intro v4 v5 v6 v7 v8 m r hf
    unfold fX1_tellLeastOrder_30 at hf
    cases hf
  | succ n ih =>
    intro v4 v5 v6 v7 v8 m r hf
    unfold fX1_tellLeastOrder_30 at hf
    refine w_blk bX1_tellLeastOrder_30 [.ref 34, .ref 3, .retAddr 0, .ref 14, .int v4, .int v5, .int v6, .int v7, .int v8, .retAddr 0] [.int (m.1 34 1), .int v8] (sm_hp m) [] rfl (sm_on) ?_
    refine w_icmp_ge (tgt := 109) dX1_tellLeastOrder_36 rfl (fun hc => ?_) (fun hc => ?_)
    · replace hf := sm_ift hc hf
      refine w_blk bX1_tellLeastOrder_109 [.ref 34, .ref 3, .retAddr 0, .ref 14, .int v4, .int v5, .int (v6 + (1 : Int32)), .int v7, .int v8, .retAddr 0] [] (sm_hp m) [] rfl (sm_on) ?_
      refine w_goto (tgt := 15) dX1_tellLeastOrder_112 rfl ?_
      refine w_wk [true, true, false, true, true, true, true, false, false, false] ?_
      exact hk15 v4 v5 (v6 + (1 : Int32)) m r hf
    · replace hf := sm_iff hc hf
      refine w_blk bX1_tellLeastOrder_39 [.ref 34, .ref 3, .retAddr 0, .ref 14, .int v4, .int v5, .int v6, .int v7, .int v8, .retAddr 0] [.int v7] (sm_hp m) [] rfl (sm_on) ?_
      refine w_if_ne (tgt := 109) dX1_tellLeastOrder_41 rfl (fun hc => ?_) (fun hc => ?_)
      · replace hf := sm_iff hc hf
        refine w_blk bX1_tellLeastOrder_109 [.ref 34, .ref 3, .retAddr 0, .ref 14, .int v4, .int v5, .int (v6 + (1 : Int32)), .int v7, .int v8, .retAddr 0] [] (sm_hp m) [] rfl (sm_on) ?_
        refine w_goto (tgt := 15) dX1_tellLeastOrder_112 rfl ?_
        refine w_wk [true, true, false, true, true, true, true, false, false, false] ?_
        exact hk15 v4 v5 (v6 + (1 : Int32)) m r hf
      · replace hf := sm_ift hc hf
        refine w_blk bX1_tellLeastOrder_44 [.ref 34, .ref 3, .retAddr 0, .ref 14, .int v4, .int v5, .int v6, .int v7, .int v8, .retAddr 0] [.int ((v5 >>> (v8 &&& 31)) &&& (1 : Int32))] (sm_hp m) [] rfl (sm_on) ?_
        refine w_if_ne (tgt := 68) dX1_tellLeastOrder_51 rfl (fun hc => ?_) (fun hc => ?_)
        · replace hf := sm_iff hc hf
          refine w_blk bX1_tellLeastOrder_68 [.ref 34, .ref 3, .retAddr 0, .ref 14, .int v4, .int v5, .int v6, .int v7, .int v8, .retAddr 0] [.int (0 : Int32)] (sm_hp m) [] rfl (sm_on) ?_
          refine w_blk bX1_tellLeastOrder_69 [.ref 34, .ref 3, .retAddr 0, .ref 14, .int v4, .int v5, .int v6, .int v7, .int v8, .int (0 : Int32)] [.int (0 : Int32)] (sm_hp m) [] rfl (sm_on) ?_
          refine w_if_eq (tgt := 103) dX1_tellLeastOrder_73 rfl (fun _ => ?_) (fun hc => absurd hc (by decide))
          refine w_blk bX1_tellLeastOrder_103 [.ref 34, .ref 3, .retAddr 0, .ref 14, .int v4, .int v5, .int v6, .int v7, .int (v8 + (1 : Int32)), .int (0 : Int32)] [] (sm_hp m) [] rfl (sm_on) ?_
          refine w_goto (tgt := 30) dX1_tellLeastOrder_106 rfl ?_
          refine w_wk [true, true, false, true, true, true, true, true, true, false] ?_
          exact ih v4 v5 v6 v7 (v8 + (1 : Int32)) m r hf
        · replace hf := sm_ift hc hf
          refine w_blk bX1_tellLeastOrder_54 [.ref 34, .ref 3, .retAddr 0, .ref 14, .int v4, .int v5, .int v6, .int v7, .int v8, .retAddr 0] [.int v8, .int v4, .int v5, .ref 3, .ref 34] (sm_hp m) [] rfl (sm_on) ?_
          replace hf := sm_bd hf
          obtain ⟨r4, q3, hf⟩ := hf
          refine w_callV [.ref 3, .int v5, .int v4, .int v8] [] (tX1_endsOfBest v5 v4 v8 m r4 q3) (cvX1_115 rfl) dX1_tellLeastOrder_62 rfl rfl (by decide) (by decide) rfl (Nat.le_of_ble_eq_true rfl) ?_
          show sm_W _ _ _ _ _ 65 [.ref 34, .ref 3, .retAddr 0, .ref 14, .int v4, .int v5, .int v6, .int v7, .int v8, .retAddr 0] [.int r4] (sm_hp m)
          refine w_goto (tgt := 69) dX1_tellLeastOrder_65 rfl ?_
          refine w_blk bX1_tellLeastOrder_69 [.ref 34, .ref 3, .retAddr 0, .ref 14, .int v4, .int v5, .int v6, .int v7, .int v8, .int r4] [.int r4] (sm_hp m) [] rfl (sm_on) ?_
          refine w_if_eq (tgt := 103) dX1_tellLeastOrder_73 rfl (fun hc => ?_) (fun hc => ?_)
          · replace hf := sm_ift hc hf
            refine w_blk bX1_tellLeastOrder_103 [.ref 34, .ref 3, .retAddr 0, .ref 14, .int v4, .int v5, .int v6, .int v7, .int (v8 + (1 : Int32)), .int r4] [] (sm_hp m) [] rfl (sm_on) ?_
            refine w_goto (tgt := 30) dX1_tellLeastOrder_106 rfl ?_
            refine w_wk [true, true, false, true, true, true, true, true, true, false] ?_
            exact ih v4 v5 v6 v7 (v8 + (1 : Int32)) m r hf
          · replace hf := sm_iff hc hf
            replace hf := sm_ck hf
            obtain ⟨q5, hf⟩ := hf
            refine w_blk bX1_tellLeastOrder_76 [.ref 34, .ref 3, .retAddr 0, .ref 14, .int v4, .int v5, .int v6, .int (1 : Int32), .int v8, .int r4] [.int (m.1 35 (v8).toNatClampNeg), .ref 14] (sm_hp m) [(v8, 14)] rfl (sm_oc q5 (sm_on)) ?_
            replace hf := sm_bd hf
            obtain ⟨m7, q6, hf⟩ := hf
            refine w_callV [.int (m.1 35 (v8).toNatClampNeg)] [] (tX5_add (m.1 35 (v8).toNatClampNeg) m m7 q6) (cvX1_119 rfl) dX1_tellLeastOrder_87 rfl rfl (by decide) (by decide) rfl (Nat.le_of_ble_eq_true rfl) ?_
            show sm_W _ _ _ _ _ 90 [.ref 34, .ref 3, .retAddr 0, .ref 14, .int v4, .int v5, .int v6, .int (1 : Int32), .int v8, .int r4] [] (sm_hp m7)
            refine w_blk bX1_tellLeastOrder_90 [.ref 34, .ref 3, .retAddr 0, .ref 14, .int r4, .int (v5 ||| ((1 : Int32) <<< (v8 &&& 31))), .int v6, .int (1 : Int32), .int v8, .int r4] [] (sm_hp m7) [] rfl (sm_on) ?_
            refine w_blk bX1_tellLeastOrder_103 [.ref 34, .ref 3, .retAddr 0, .ref 14, .int r4, .int (v5 ||| ((1 : Int32) <<< (v8 &&& 31))), .int v6, .int (1 : Int32), .int (v8 + (1 : Int32)), .int r4] [] (sm_hp m7) [] rfl (sm_on) ?_
            refine w_goto (tgt := 30) dX1_tellLeastOrder_106 rfl ?_
            refine w_wk [true, true, false, true, true, true, true, true, true, false] ?_
            exact ih r4 (v5 ||| ((1 : Int32) <<< (v8 &&& 31))) v6 (1 : Int32) (v8 + (1 : Int32)) m7 r hf
set_option maxRecDepth 10000 in
theorem tX1_tellLeastOrder_15 {l : Launch} {al : Bool} : ∀ (n : Nat) (v4 : Int32) (v5 : Int32) (v6 : Int32) (m : sm_S) (r : sm_S), fX1_tellLeastOrder_15 n v4 v5 v6 m = some r → sm_W l mX1_tellLeastOrder 4 al (none, sm_hp r) 15 [.ref 34, .ref 3, .retAddr 0, .ref 14, .int v4, .int v5, .int v6, .retAddr 0, .retAddr 0, .retAddr 0] [] (sm_hp m) := by
  intro n
  induction n with
  | zero =>
    intro v4 v5 v6 m r hf
    unfold fX1_tellLeastOrder_15 at hf
    cases hf
  | succ n ih =>
    intro v4 v5 v6 m r hf
    unfold fX1_tellLeastOrder_15 at hf
    refine w_blk bX1_tellLeastOrder_15 [.ref 34, .ref 3, .retAddr 0, .ref 14, .int v4, .int v5, .int v6, .retAddr 0, .retAddr 0, .retAddr 0] [.int (m.1 34 1), .int v6] (sm_hp m) [] rfl (sm_on) ?_
    refine w_icmp_ge (tgt := 115) dX1_tellLeastOrder_21 rfl (fun hc => ?_) (fun hc => ?_)
    · replace hf := sm_ift hc hf
      obtain rfl := Option.some.inj hf
      exact w_retv dX1_tellLeastOrder_115 rfl
    · replace hf := sm_iff hc hf
      refine w_blk bX1_tellLeastOrder_24 [.ref 34, .ref 3, .retAddr 0, .ref 14, .int v4, .int v5, .int v6, .int (0 : Int32), .int (0 : Int32), .retAddr 0] [] (sm_hp m) [] rfl (sm_on) ?_
      exact tX1_tellLeastOrder_30 (fX1_tellLeastOrder_15 n) ih sm_fu v4 v5 v6 (0 : Int32) (0 : Int32) m r hf
set_option maxRecDepth 10000 in
theorem tX1_tellLeastOrder {l : Launch} {al : Bool} (x1 : Int32) (m : sm_S) (r : sm_S) (hf : fX1_tellLeastOrder x1 m = some r) : sm_Rt l mX1_tellLeastOrder 4 0 0 al al [.ref 34, .ref 3, .int x1, .ref 14] (sm_hp m) (none, sm_hp r) := by
  refine sm_Rt.ofW (L := [.ref 34, .ref 3, .int x1, .ref 14, .retAddr 0, .retAddr 0, .retAddr 0, .retAddr 0, .retAddr 0, .retAddr 0]) (by decide) (Nat.le_of_ble_eq_true rfl) rfl ?_
  unfold fX1_tellLeastOrder at hf
  refine w_blk bX1_tellLeastOrder_0 [.ref 34, .ref 3, .int x1, .ref 14, .retAddr 0, .retAddr 0, .retAddr 0, .retAddr 0, .retAddr 0, .retAddr 0] [.ref 14] (sm_hp m) [] rfl (sm_on) ?_
  replace hf := sm_bd hf
  obtain ⟨m2, q1, hf⟩ := hf
  refine w_callV [] [] (tX5_clear m m2 q1) (cvX1_110 rfl) dX1_tellLeastOrder_1 rfl rfl (by decide) (by decide) rfl (Nat.le_of_ble_eq_true rfl) ?_
  show sm_W _ _ _ _ _ 4 [.ref 34, .ref 3, .int x1, .ref 14, .retAddr 0, .retAddr 0, .retAddr 0, .retAddr 0, .retAddr 0, .retAddr 0] [] (sm_hp m2)
  refine w_blk bX1_tellLeastOrder_4 [.ref 34, .ref 3, .int x1, .ref 14, .int ((1 : Int32) <<< (x1 &&& 31)), .int (0 : Int32), .int (0 : Int32), .retAddr 0, .retAddr 0, .retAddr 0] [] (sm_hp m2) [] rfl (sm_on) ?_
  refine w_wk [true, true, false, true, true, true, true, false, false, false] ?_
  exact tX1_tellLeastOrder_15 sm_fu ((1 : Int32) <<< (x1 &&& 31)) (0 : Int32) (0 : Int32) m2 r hf
set_option maxRecDepth 10000 in
theorem tX11_gates {l : Launch} {al : Bool} (x1 : Int32) (m : sm_S) (r : Int32 × sm_S) (hf : fX11_gates x1 m = some r) : sm_Rt l mX11_gates 5 0 0 al al [.ref 0, .int x1] (sm_hp m) (some (.int r.1), sm_hp r.2) := by
  refine sm_Rt.ofW (L := [.ref 0, .int x1, .retAddr 0]) (by decide) (Nat.le_of_ble_eq_true rfl) rfl ?_
  unfold fX11_gates at hf
  refine w_blk bX11_gates_0 [.ref 0, .int x1, .retAddr 0] [.int x1, .ref 3] (sm_hp m) [] rfl (sm_on) ?_
  replace hf := sm_bd hf
  obtain ⟨r2, q1, hf⟩ := hf
  refine w_callV [.int x1] [] (tX2_hasCorner x1 m r2 q1) (cvX11_144 rfl) dX11_gates_5 rfl rfl (by decide) (by decide) rfl (Nat.le_of_ble_eq_true rfl) ?_
  show sm_W _ _ _ _ _ 8 [.ref 0, .int x1, .retAddr 0] [.int r2] (sm_hp m)
  refine w_if_ne (tgt := 13) dX11_gates_8 rfl (fun hc => ?_) (fun hc => ?_)
  · replace hf := sm_iff hc hf
    refine w_blk bX11_gates_13 [.ref 0, .int x1, .retAddr 0] [.ref 3, .ref 34] (sm_hp m) [] rfl (sm_on) ?_
    replace hf := sm_bd hf
    obtain ⟨m4, q3, hf⟩ := hf
    refine w_callV [.ref 3] [] (tX1_prepare m m4 q3) (cvX11_329 rfl) dX11_gates_21 rfl rfl (by decide) (by decide) rfl (Nat.le_of_ble_eq_true rfl) ?_
    show sm_W _ _ _ _ _ 24 [.ref 0, .int x1, .retAddr 0] [] (sm_hp m4)
    refine w_blk bX11_gates_24 [.ref 0, .int x1, .retAddr 0] [.int x1, .ref 3, .ref 34] (sm_hp m4) [] rfl (sm_on) ?_
    replace hf := sm_bd hf
    obtain ⟨r6, q5, hf⟩ := hf
    refine w_callV [.ref 3, .int x1] [] (tX1_fewestMinutes x1 m4 r6 q5) (cvX11_333 rfl) dX11_gates_33 rfl rfl (by decide) (by decide) rfl (Nat.le_of_ble_eq_true rfl) ?_
    show sm_W _ _ _ _ _ 36 [.ref 0, .int x1, .retAddr 0] [.int r6.1] (sm_hp r6.2)
    refine w_blk bX11_gates_36 [.ref 0, .int x1, .int r6.1] [.int r6.1] (sm_hp r6.2) [] rfl (sm_on) ?_
    refine w_if_ge (tgt := 44) dX11_gates_38 rfl (fun hc => ?_) (fun hc => ?_)
    · replace hf := sm_ift hc hf
      refine w_blk bX11_gates_44 [.ref 0, .int x1, .int r6.1] [.ref 14, .int x1, .ref 3, .ref 34] (sm_hp r6.2) [] rfl (sm_on) ?_
      replace hf := sm_bd hf
      obtain ⟨m8, q7, hf⟩ := hf
      refine w_callV [.ref 3, .int x1, .ref 14] [] (tX1_tellLeastOrder x1 r6.2 m8 q7) (cvX11_336 rfl) dX11_gates_57 rfl rfl (by decide) (by decide) rfl (Nat.le_of_ble_eq_true rfl) ?_
      show sm_W _ _ _ _ _ 60 [.ref 0, .int x1, .int r6.1] [] (sm_hp m8)
      refine w_blk bX11_gates_60 [.ref 0, .int x1, .int r6.1] [.int r6.1] (sm_hp m8) [] rfl (sm_on) ?_
      obtain rfl := Option.some.inj hf
      exact w_reti dX11_gates_61 rfl rfl
    · replace hf := sm_iff hc hf
      refine w_blk bX11_gates_41 [.ref 0, .int x1, .int r6.1] [.int (-2 : Int32)] (sm_hp r6.2) [] rfl (sm_on) ?_
      obtain rfl := Option.some.inj hf
      exact w_reti dX11_gates_43 rfl rfl
  · replace hf := sm_ift hc hf
    refine w_blk bX11_gates_11 [.ref 0, .int x1, .retAddr 0] [.int (-1 : Int32)] (sm_hp m) [] rfl (sm_on) ?_
    obtain rfl := Option.some.inj hf
    exact w_reti dX11_gates_12 rfl rfl
set_option maxRecDepth 10000 in
theorem tX0_hear {l : Launch} {al : Bool} (x1 : Int32) (x2 : Int32) (m : sm_S) (r : Int32 × sm_S) (hf : fX0_hear x1 x2 m = some r) : sm_Rt l mX0_hear 1 0 0 al al [.ref 51, .int x1, .int x2] (sm_hp m) (some (.int r.1), sm_hp r.2) := by
  refine sm_Rt.ofW (L := [.ref 51, .int x1, .int x2]) (by decide) (Nat.le_of_ble_eq_true rfl) rfl ?_
  unfold fX0_hear at hf
  refine w_blk bX0_hear_0 [.ref 51, .int x1, .int x2] [.int (12 : Int32), .int (m.1 51 0)] (sm_hp m) [] rfl (sm_on) ?_
  refine w_icmp_lt (tgt := 11) dX0_hear_6 rfl (fun hc => ?_) (fun hc => ?_)
  · replace hf := sm_ift hc hf
    replace hf := sm_ck hf
    obtain ⟨q1, hf⟩ := hf
    replace hf := sm_ck hf
    obtain ⟨q2, hf⟩ := hf
    refine w_blk bX0_hear_11 [.ref 51, .int x1, .int x2] [.int (1 : Int32)] (sm_hp (sm_w1 (sm_w1 (sm_w1 m 53 (m.1 51 0).toNatClampNeg x1) 54 (m.1 51 0).toNatClampNeg x2) 51 0 ((m.1 51 0) + (1 : Int32)))) [((m.1 51 0), 12), ((m.1 51 0), 12)] rfl (sm_oc q1 (sm_oc q2 (sm_on))) ?_
    obtain rfl := Option.some.inj hf
    exact w_reti dX0_hear_42 rfl sm_nb1
  · replace hf := sm_iff hc hf
    refine w_blk bX0_hear_9 [.ref 51, .int x1, .int x2] [.int (0 : Int32)] (sm_hp m) [] rfl (sm_on) ?_
    obtain rfl := Option.some.inj hf
    exact w_reti dX0_hear_10 rfl sm_nb0
set_option maxRecDepth 10000 in
theorem tX11_heard {l : Launch} {al : Bool} (x1 : Int32) (x2 : Int32) (m : sm_S) (r : Int32 × sm_S) (hf : fX11_heard x1 x2 m = some r) : sm_Rt l mX11_heard 2 0 0 al al [.ref 0, .int x1, .int x2] (sm_hp m) (some (.int r.1), sm_hp r.2) := by
  refine sm_Rt.ofW (L := [.ref 0, .int x1, .int x2]) (by decide) (Nat.le_of_ble_eq_true rfl) rfl ?_
  unfold fX11_heard at hf
  refine w_blk bX11_heard_0 [.ref 0, .int x1, .int x2] [.int x1, .ref 3] (sm_hp m) [] rfl (sm_on) ?_
  replace hf := sm_bd hf
  obtain ⟨r2, q1, hf⟩ := hf
  refine w_callV [.int x1] [] (tX2_hasHedge x1 m r2 q1) (cvX11_105 rfl) dX11_heard_5 rfl rfl (by decide) (by decide) rfl (Nat.le_of_ble_eq_true rfl) ?_
  show sm_W _ _ _ _ _ 8 [.ref 0, .int x1, .int x2] [.int r2] (sm_hp m)
  refine w_if_eq (tgt := 21) dX11_heard_8 rfl (fun hc => ?_) (fun hc => ?_)
  · replace hf := sm_ift hc hf
    refine w_blk bX11_heard_21 [.ref 0, .int x1, .int x2] [.int (-1 : Int32)] (sm_hp m) [] rfl (sm_on) ?_
    obtain rfl := Option.some.inj hf
    exact w_reti dX11_heard_22 rfl rfl
  · replace hf := sm_iff hc hf
    refine w_blk bX11_heard_11 [.ref 0, .int x1, .int x2] [.int x2] (sm_hp m) [] rfl (sm_on) ?_
    refine w_if_lt (tgt := 21) dX11_heard_12 rfl (fun hc => ?_) (fun hc => ?_)
    · replace hf := sm_ift hc hf
      refine w_blk bX11_heard_21 [.ref 0, .int x1, .int x2] [.int (-1 : Int32)] (sm_hp m) [] rfl (sm_on) ?_
      obtain rfl := Option.some.inj hf
      exact w_reti dX11_heard_22 rfl rfl
    · replace hf := sm_iff hc hf
      refine w_blk bX11_heard_15 [.ref 0, .int x1, .int x2] [.int (6 : Int32), .int x2] (sm_hp m) [] rfl (sm_on) ?_
      refine w_icmp_le (tgt := 23) dX11_heard_18 rfl (fun hc => ?_) (fun hc => ?_)
      · replace hf := sm_ift hc hf
        refine w_blk bX11_heard_23 [.ref 0, .int x1, .int x2] [.int x2, .int x1, .ref 51] (sm_hp m) [] rfl (sm_on) ?_
        replace hf := sm_bd hf
        obtain ⟨r4, q3, hf⟩ := hf
        refine w_callV [.int x1, .int x2] [] (tX0_hear x1 x2 m r4 q3) (cvX11_340 rfl) dX11_heard_29 rfl rfl (by decide) (by decide) rfl (Nat.le_of_ble_eq_true rfl) ?_
        show sm_W _ _ _ _ _ 32 [.ref 0, .int x1, .int x2] [.int r4.1] (sm_hp r4.2)
        refine w_if_eq (tgt := 45) dX11_heard_32 rfl (fun hc => ?_) (fun hc => ?_)
        · replace hf := sm_ift hc hf
          refine w_blk bX11_heard_45 [.ref 0, .int x1, .int x2] [.int (-1 : Int32)] (sm_hp r4.2) [] rfl (sm_on) ?_
          obtain rfl := Option.some.inj hf
          exact w_reti dX11_heard_46 rfl rfl
        · replace hf := sm_iff hc hf
          refine w_blk bX11_heard_35 [.ref 0, .int x1, .int x2] [.int (r4.2.1 51 0)] (sm_hp r4.2) [] rfl (sm_on) ?_
          refine w_goto (tgt := 46) dX11_heard_42 rfl ?_
          obtain rfl := Option.some.inj hf
          exact w_reti dX11_heard_46 rfl rfl
      · replace hf := sm_iff hc hf
        refine w_blk bX11_heard_21 [.ref 0, .int x1, .int x2] [.int (-1 : Int32)] (sm_hp m) [] rfl (sm_on) ?_
        obtain rfl := Option.some.inj hf
        exact w_reti dX11_heard_22 rfl rfl
set_option maxRecDepth 10000 in
theorem tX11_forget {l : Launch} {al : Bool} (m : sm_S) (r : Int32 × sm_S) (hf : fX11_forget m = some r) : sm_Rt l mX11_forget 1 0 0 al al [.ref 0] (sm_hp m) (some (.int r.1), sm_hp r.2) := by
  refine sm_Rt.ofW (L := [.ref 0]) (by decide) (Nat.le_of_ble_eq_true rfl) rfl ?_
  unfold fX11_forget at hf
  refine w_blk bX11_forget_0 [.ref 0] [.int (m.1 51 0)] (sm_hp m) [] rfl (sm_on) ?_
  refine w_if_ne (tgt := 12) dX11_forget_7 rfl (fun hc => ?_) (fun hc => ?_)
  · replace hf := sm_iff hc hf
    refine w_blk bX11_forget_12 [.ref 0] [.int ((m.1 51 0) - (1 : Int32))] (sm_hp (sm_w1 m 51 0 ((m.1 51 0) - (1 : Int32)))) [] rfl (sm_on) ?_
    obtain rfl := Option.some.inj hf
    exact w_reti dX11_forget_32 rfl rfl
  · replace hf := sm_ift hc hf
    refine w_blk bX11_forget_10 [.ref 0] [.int (-1 : Int32)] (sm_hp m) [] rfl (sm_on) ?_
    obtain rfl := Option.some.inj hf
    exact w_reti dX11_forget_11 rfl rfl
set_option maxRecDepth 10000 in
theorem tX0_all {l : Launch} {al : Bool} (m : sm_S) (r : Int32) (hf : fX0_all m = some r) : sm_Rt l mX0_all 1 0 0 al al [.ref 51] (sm_hp m) (some (.int r), sm_hp m) := by
  refine sm_Rt.ofW (L := [.ref 51]) (by decide) (Nat.le_of_ble_eq_true rfl) rfl ?_
  unfold fX0_all at hf
  refine w_blk bX0_all_0 [.ref 51] [.int (((1 : Int32) <<< ((m.1 51 0) &&& 31)) - (1 : Int32))] (sm_hp m) [] rfl (sm_on) ?_
  obtain rfl := Option.some.inj hf
  exact w_reti dX0_all_8 rfl rfl
set_option maxRecDepth 10000 in
theorem tX0_cowsIn {l : Launch} {al : Bool} (x1 : Int32) (x2 : Int32) (m : sm_S) (r : Int32) (hf : fX0_cowsIn x1 x2 m = some r) : sm_Rt l mX0_cowsIn 1 0 0 al al [.int x1, .int x2] (sm_hp m) (some (.int r), sm_hp m) := by
  refine sm_Rt.ofW (L := [.int x1, .int x2]) (by decide) (Nat.le_of_ble_eq_true rfl) rfl ?_
  unfold fX0_cowsIn at hf
  refine w_blk bX0_cowsIn_0 [.int x1, .int x2] [.int ((x1 >>> (((2 : Int32) * ((5 : Int32) - x2)) &&& 31)) &&& (3 : Int32))] (sm_hp m) [] rfl (sm_on) ?_
  obtain rfl := Option.some.inj hf
  exact w_reti dX0_cowsIn_9 rfl rfl
set_option maxRecDepth 10000 in
theorem tX0_cowsOver {l : Launch} {al : Bool} (x1 : Int32) (x2 : Int32) (m : sm_S) (r : Int32) (hf : fX0_cowsOver x1 x2 m = some r) : sm_Rt l mX0_cowsOver 2 0 0 al al [.ref 3, .int x1, .int x2] (sm_hp m) (some (.int r), sm_hp m) := by
  refine sm_Rt.ofW (L := [.ref 3, .int x1, .int x2]) (by decide) (Nat.le_of_ble_eq_true rfl) rfl ?_
  unfold fX0_cowsOver at hf
  replace hf := sm_ck hf
  obtain ⟨q1, hf⟩ := hf
  refine w_blk bX0_cowsOver_0 [.ref 3, .int x1, .int x2] [.int (m.1 9 (x1).toNatClampNeg), .int x2] (sm_hp m) [(x1, 14)] rfl (sm_oc q1 (sm_on)) ?_
  replace hf := sm_bd hf
  obtain ⟨r3, q2, hf⟩ := hf
  refine w_callS [.int x2, .int (m.1 9 (x1).toNatClampNeg)] [] (tX0_cowsIn x2 (m.1 9 (x1).toNatClampNeg) m r3 q2) (csX0_32 rfl) dX0_cowsOver_7 rfl rfl (by decide) (by decide) (Nat.le_of_ble_eq_true rfl) ?_
  show sm_W _ _ _ _ _ 10 [.ref 3, .int x1, .int x2] [.int r3] (sm_hp m)
  replace hf := sm_ck hf
  obtain ⟨q4, hf⟩ := hf
  refine w_blk bX0_cowsOver_10 [.ref 3, .int x1, .int x2] [.int (m.1 10 (x1).toNatClampNeg), .int x2, .int r3] (sm_hp m) [(x1, 14)] rfl (sm_oc q4 (sm_on)) ?_
  replace hf := sm_bd hf
  obtain ⟨r6, q5, hf⟩ := hf
  refine w_callS [.int x2, .int (m.1 10 (x1).toNatClampNeg)] [.int r3] (tX0_cowsIn x2 (m.1 10 (x1).toNatClampNeg) m r6 q5) (csX0_32 rfl) dX0_cowsOver_17 rfl rfl (by decide) (by decide) (Nat.le_of_ble_eq_true rfl) ?_
  show sm_W _ _ _ _ _ 20 [.ref 3, .int x1, .int x2] [.int r6, .int r3] (sm_hp m)
  refine w_blk bX0_cowsOver_20 [.ref 3, .int x1, .int x2] [.int (r3 + r6)] (sm_hp m) [] rfl (sm_on) ?_
  obtain rfl := Option.some.inj hf
  exact w_reti dX0_cowsOver_21 rfl rfl
set_option maxRecDepth 10000 in
theorem tX0_isLie {l : Launch} {al : Bool} (x1 : Int32) (x2 : Int32) (m : sm_S) (r : Int32) (hf : fX0_isLie x1 x2 m = some r) : sm_Rt l mX0_isLie 3 0 0 al al [.ref 51, .ref 3, .int x1, .int x2] (sm_hp m) (some (.int r), sm_hp m) := by
  refine sm_Rt.ofW (L := [.ref 51, .ref 3, .int x1, .int x2]) (by decide) (Nat.le_of_ble_eq_true rfl) rfl ?_
  unfold fX0_isLie at hf
  replace hf := sm_ck hf
  obtain ⟨q1, hf⟩ := hf
  refine w_blk bX0_isLie_0 [.ref 51, .ref 3, .int x1, .int x2] [.int x1, .int (m.1 53 (x2).toNatClampNeg), .ref 3] (sm_hp m) [(x2, 12)] rfl (sm_oc q1 (sm_on)) ?_
  replace hf := sm_bd hf
  obtain ⟨r3, q2, hf⟩ := hf
  refine w_callS [.ref 3, .int (m.1 53 (x2).toNatClampNeg), .int x1] [] (tX0_cowsOver (m.1 53 (x2).toNatClampNeg) x1 m r3 q2) (csX0_44 rfl) dX0_isLie_8 rfl rfl (by decide) (by decide) (Nat.le_of_ble_eq_true rfl) ?_
  show sm_W _ _ _ _ _ 11 [.ref 51, .ref 3, .int x1, .int x2] [.int r3] (sm_hp m)
  replace hf := sm_ck hf
  obtain ⟨q4, hf⟩ := hf
  refine w_blk bX0_isLie_11 [.ref 51, .ref 3, .int x1, .int x2] [.int (m.1 54 (x2).toNatClampNeg), .int r3] (sm_hp m) [(x2, 12)] rfl (sm_oc q4 (sm_on)) ?_
  refine w_icmp_eq (tgt := 24) dX0_isLie_17 rfl (fun hc => ?_) (fun hc => ?_)
  · replace hf := sm_ift hc hf
    refine w_blk bX0_isLie_24 [.ref 51, .ref 3, .int x1, .int x2] [.int (0 : Int32)] (sm_hp m) [] rfl (sm_on) ?_
    obtain rfl := Option.some.inj hf
    exact w_reti dX0_isLie_25 rfl sm_nb0
  · replace hf := sm_iff hc hf
    refine w_blk bX0_isLie_20 [.ref 51, .ref 3, .int x1, .int x2] [.int (1 : Int32)] (sm_hp m) [] rfl (sm_on) ?_
    refine w_goto (tgt := 25) dX0_isLie_21 rfl ?_
    obtain rfl := Option.some.inj hf
    exact w_reti dX0_isLie_25 rfl sm_nb1
set_option maxRecDepth 10000 in
theorem tX0_allHold_3 {l : Launch} {al : Bool} : ∀ (n : Nat) (v2 : Int32) (v3 : Int32) (v4 : Int32) (m : sm_S) (r : Int32), fX0_allHold_3 n v2 v3 v4 m = some r → sm_W l mX0_allHold 4 al (some (.int r), sm_hp m) 3 [.ref 51, .ref 3, .int v2, .int v3, .int v4] [] (sm_hp m) := by
  intro n
  induction n with
  | zero =>
    intro v2 v3 v4 m r hf
    unfold fX0_allHold_3 at hf
    cases hf
  | succ n ih =>
    intro v2 v3 v4 m r hf
    unfold fX0_allHold_3 at hf
    refine w_blk bX0_allHold_3 [.ref 51, .ref 3, .int v2, .int v3, .int v4] [.int (m.1 51 0), .int v4] (sm_hp m) [] rfl (sm_on) ?_
    refine w_icmp_ge (tgt := 40) dX0_allHold_9 rfl (fun hc => ?_) (fun hc => ?_)
    · replace hf := sm_ift hc hf
      refine w_blk bX0_allHold_40 [.ref 51, .ref 3, .int v2, .int v3, .int v4] [.int (1 : Int32)] (sm_hp m) [] rfl (sm_on) ?_
      obtain rfl := Option.some.inj hf
      exact w_reti dX0_allHold_41 rfl sm_nb1
    · replace hf := sm_iff hc hf
      refine w_blk bX0_allHold_12 [.ref 51, .ref 3, .int v2, .int v3, .int v4] [.int ((v3 >>> (v4 &&& 31)) &&& (1 : Int32))] (sm_hp m) [] rfl (sm_on) ?_
      refine w_if_eq (tgt := 34) dX0_allHold_18 rfl (fun hc => ?_) (fun hc => ?_)
      · replace hf := sm_ift hc hf
        refine w_blk bX0_allHold_34 [.ref 51, .ref 3, .int v2, .int v3, .int (v4 + (1 : Int32))] [] (sm_hp m) [] rfl (sm_on) ?_
        refine w_goto (tgt := 3) dX0_allHold_37 rfl ?_
        exact ih v2 v3 (v4 + (1 : Int32)) m r hf
      · replace hf := sm_iff hc hf
        refine w_blk bX0_allHold_21 [.ref 51, .ref 3, .int v2, .int v3, .int v4] [.int v4, .int v2, .ref 3, .ref 51] (sm_hp m) [] rfl (sm_on) ?_
        replace hf := sm_bd hf
        obtain ⟨r2, q1, hf⟩ := hf
        refine w_callV [.ref 3, .int v2, .int v4] [] (tX0_isLie v2 v4 m r2 q1) (cvX0_48 rfl) dX0_allHold_26 rfl rfl (by decide) (by decide) rfl (Nat.le_of_ble_eq_true rfl) ?_
        show sm_W _ _ _ _ _ 29 [.ref 51, .ref 3, .int v2, .int v3, .int v4] [.int r2] (sm_hp m)
        refine w_if_eq (tgt := 34) dX0_allHold_29 rfl (fun hc => ?_) (fun hc => ?_)
        · replace hf := sm_ift hc hf
          refine w_blk bX0_allHold_34 [.ref 51, .ref 3, .int v2, .int v3, .int (v4 + (1 : Int32))] [] (sm_hp m) [] rfl (sm_on) ?_
          refine w_goto (tgt := 3) dX0_allHold_37 rfl ?_
          exact ih v2 v3 (v4 + (1 : Int32)) m r hf
        · replace hf := sm_iff hc hf
          refine w_blk bX0_allHold_32 [.ref 51, .ref 3, .int v2, .int v3, .int v4] [.int (0 : Int32)] (sm_hp m) [] rfl (sm_on) ?_
          obtain rfl := Option.some.inj hf
          exact w_reti dX0_allHold_33 rfl sm_nb0
set_option maxRecDepth 10000 in
theorem tX0_allHold {l : Launch} {al : Bool} (x1 : Int32) (x2 : Int32) (m : sm_S) (r : Int32) (hf : fX0_allHold x1 x2 m = some r) : sm_Rt l mX0_allHold 4 0 0 al al [.ref 51, .ref 3, .int x1, .int x2] (sm_hp m) (some (.int r), sm_hp m) := by
  refine sm_Rt.ofW (L := [.ref 51, .ref 3, .int x1, .int x2, .retAddr 0]) (by decide) (Nat.le_of_ble_eq_true rfl) rfl ?_
  unfold fX0_allHold at hf
  refine w_blk bX0_allHold_0 [.ref 51, .ref 3, .int x1, .int x2, .int (0 : Int32)] [] (sm_hp m) [] rfl (sm_on) ?_
  exact tX0_allHold_3 sm_fu x1 x2 (0 : Int32) m r hf
set_option maxRecDepth 10000 in
theorem tX0_findWays_27 {l : Launch} {al : Bool} : ∀ (n : Nat) (v2 : Int32) (v3 : Int32) (m : sm_S) (r : Int32 × sm_S), fX0_findWays_27 n v2 v3 m = some r → sm_W l mX0_findWays 5 al (some (.int r.1), sm_hp r.2) 27 [.ref 51, .ref 3, .int v2, .int v3] [] (sm_hp m) := by
  intro n
  induction n with
  | zero =>
    intro v2 v3 m r hf
    unfold fX0_findWays_27 at hf
    cases hf
  | succ n ih =>
    intro v2 v3 m r hf
    unfold fX0_findWays_27 at hf
    refine w_blk bX0_findWays_27 [.ref 51, .ref 3, .int v2, .int v3] [.int v3] (sm_hp m) [] rfl (sm_on) ?_
    refine w_if_lt (tgt := 76) dX0_findWays_28 rfl (fun hc => ?_) (fun hc => ?_)
    · replace hf := sm_ift hc hf
      refine w_blk bX0_findWays_76 [.ref 51, .ref 3, .int v2, .int v3] [.int v2] (sm_hp m) [] rfl (sm_on) ?_
      obtain rfl := Option.some.inj hf
      exact w_reti dX0_findWays_77 rfl rfl
    · replace hf := sm_iff hc hf
      refine w_blk bX0_findWays_31 [.ref 51, .ref 3, .int v2, .int v3] [.ref 51, .int v3, .ref 3, .ref 51] (sm_hp m) [] rfl (sm_on) ?_
      replace hf := sm_bd hf
      obtain ⟨r2, q1, hf⟩ := hf
      refine w_callV [] [.int v3, .ref 3, .ref 51] (tX0_all m r2 q1) (cvX0_52 rfl) dX0_findWays_35 rfl rfl (by decide) (by decide) rfl (Nat.le_of_ble_eq_true rfl) ?_
      show sm_W _ _ _ _ _ 38 [.ref 51, .ref 3, .int v2, .int v3] [.int r2, .int v3, .ref 3, .ref 51] (sm_hp m)
      replace hf := sm_bd hf
      obtain ⟨r4, q3, hf⟩ := hf
      refine w_callV [.ref 3, .int v3, .int r2] [] (tX0_allHold v3 r2 m r4 q3) (cvX0_56 rfl) dX0_findWays_38 rfl rfl (by decide) (by decide) rfl (Nat.le_of_ble_eq_true rfl) ?_
      show sm_W _ _ _ _ _ 41 [.ref 51, .ref 3, .int v2, .int v3] [.int r4] (sm_hp m)
      refine w_if_eq (tgt := 70) dX0_findWays_41 rfl (fun hc => ?_) (fun hc => ?_)
      · replace hf := sm_ift hc hf
        refine w_blk bX0_findWays_70 [.ref 51, .ref 3, .int v2, .int (v3 + (-1 : Int32))] [] (sm_hp m) [] rfl (sm_on) ?_
        refine w_goto (tgt := 27) dX0_findWays_73 rfl ?_
        exact ih v2 (v3 + (-1 : Int32)) m r hf
      · replace hf := sm_iff hc hf
        replace hf := sm_ck hf
        obtain ⟨q5, hf⟩ := hf
        replace hf := sm_ck hf
        obtain ⟨q6, hf⟩ := hf
        refine w_blk bX0_findWays_44 [.ref 51, .ref 3, .int (v2 + (1 : Int32)), .int v3] [] (sm_hp (sm_w1 (sm_w2 m 52 (v3 >>> ((6 : Int32) &&& 31)).toNatClampNeg ((m.2 52 (v3 >>> ((6 : Int32) &&& 31)).toNatClampNeg) ||| ((1 : Int64) <<< (((v3 &&& (63 : Int32))).toInt64 &&& 63)))) 51 1 v3)) [((v3 >>> ((6 : Int32) &&& 31)), 64), ((v3 >>> ((6 : Int32) &&& 31)), 64)] rfl (sm_oc q5 (sm_oc q6 (sm_on))) ?_
        refine w_blk bX0_findWays_70 [.ref 51, .ref 3, .int (v2 + (1 : Int32)), .int (v3 + (-1 : Int32))] [] (sm_hp (sm_w1 (sm_w2 m 52 (v3 >>> ((6 : Int32) &&& 31)).toNatClampNeg ((m.2 52 (v3 >>> ((6 : Int32) &&& 31)).toNatClampNeg) ||| ((1 : Int64) <<< (((v3 &&& (63 : Int32))).toInt64 &&& 63)))) 51 1 v3)) [] rfl (sm_on) ?_
        refine w_goto (tgt := 27) dX0_findWays_73 rfl ?_
        exact ih (v2 + (1 : Int32)) (v3 + (-1 : Int32)) (sm_w1 (sm_w2 m 52 (v3 >>> ((6 : Int32) &&& 31)).toNatClampNeg ((m.2 52 (v3 >>> ((6 : Int32) &&& 31)).toNatClampNeg) ||| ((1 : Int64) <<< (((v3 &&& (63 : Int32))).toInt64 &&& 63)))) 51 1 v3) r hf
set_option maxRecDepth 10000 in
theorem tX0_findWays_2 {l : Launch} {al : Bool} : ∀ (n : Nat) (v2 : Int32) (m : sm_S) (r : Int32 × sm_S), fX0_findWays_2 n v2 m = some r → sm_W l mX0_findWays 5 al (some (.int r.1), sm_hp r.2) 2 [.ref 51, .ref 3, .int v2, .retAddr 0] [] (sm_hp m) := by
  intro n
  induction n with
  | zero =>
    intro v2 m r hf
    unfold fX0_findWays_2 at hf
    cases hf
  | succ n ih =>
    intro v2 m r hf
    unfold fX0_findWays_2 at hf
    refine w_blk bX0_findWays_2 [.ref 51, .ref 3, .int v2, .retAddr 0] [.int (64 : Int32), .int v2] (sm_hp m) [] rfl (sm_on) ?_
    refine w_icmp_ge (tgt := 21) dX0_findWays_5 rfl (fun hc => ?_) (fun hc => ?_)
    · replace hf := sm_ift hc hf
      refine w_blk bX0_findWays_21 [.ref 51, .ref 3, .int (0 : Int32), .int (4095 : Int32)] [] (sm_hp m) [] rfl (sm_on) ?_
      exact tX0_findWays_27 sm_fu (0 : Int32) (4095 : Int32) m r hf
    · replace hf := sm_iff hc hf
      replace hf := sm_ck hf
      obtain ⟨q7, hf⟩ := hf
      refine w_blk bX0_findWays_8 [.ref 51, .ref 3, .int (v2 + (1 : Int32)), .retAddr 0] [] (sm_hp (sm_w2 m 52 (v2).toNatClampNeg (0 : Int64))) [(v2, 64)] rfl (sm_oc q7 (sm_on)) ?_
      refine w_goto (tgt := 2) dX0_findWays_18 rfl ?_
      exact ih (v2 + (1 : Int32)) (sm_w2 m 52 (v2).toNatClampNeg (0 : Int64)) r hf
set_option maxRecDepth 10000 in
theorem tX0_findWays {l : Launch} {al : Bool} (m : sm_S) (r : Int32 × sm_S) (hf : fX0_findWays m = some r) : sm_Rt l mX0_findWays 5 0 0 al al [.ref 51, .ref 3] (sm_hp m) (some (.int r.1), sm_hp r.2) := by
  refine sm_Rt.ofW (L := [.ref 51, .ref 3, .retAddr 0, .retAddr 0]) (by decide) (Nat.le_of_ble_eq_true rfl) rfl ?_
  unfold fX0_findWays at hf
  refine w_blk bX0_findWays_0 [.ref 51, .ref 3, .int (0 : Int32), .retAddr 0] [] (sm_hp m) [] rfl (sm_on) ?_
  exact tX0_findWays_2 sm_fu (0 : Int32) m r hf
set_option maxRecDepth 10000 in
theorem tX0_asDigits_4 {l : Launch} {al : Bool} : ∀ (n : Nat) (v0 : Int32) (v1 : Int32) (v2 : Int32) (m : sm_S) (r : Int32), fX0_asDigits_4 n v0 v1 v2 m = some r → sm_W l mX0_asDigits 2 al (some (.int r), sm_hp m) 4 [.int v0, .int v1, .int v2] [] (sm_hp m) := by
  intro n
  induction n with
  | zero =>
    intro v0 v1 v2 m r hf
    unfold fX0_asDigits_4 at hf
    cases hf
  | succ n ih =>
    intro v0 v1 v2 m r hf
    unfold fX0_asDigits_4 at hf
    refine w_blk bX0_asDigits_4 [.int v0, .int v1, .int v2] [.int (6 : Int32), .int v2] (sm_hp m) [] rfl (sm_on) ?_
    refine w_icmp_ge (tgt := 27) dX0_asDigits_7 rfl (fun hc => ?_) (fun hc => ?_)
    · replace hf := sm_ift hc hf
      refine w_blk bX0_asDigits_27 [.int v0, .int v1, .int v2] [.int v1] (sm_hp m) [] rfl (sm_on) ?_
      obtain rfl := Option.some.inj hf
      exact w_reti dX0_asDigits_28 rfl rfl
    · replace hf := sm_iff hc hf
      refine w_blk bX0_asDigits_10 [.int v0, .int v1, .int v2] [.int v2, .int v0, .int ((10 : Int32) * v1)] (sm_hp m) [] rfl (sm_on) ?_
      replace hf := sm_bd hf
      obtain ⟨r2, q1, hf⟩ := hf
      refine w_callS [.int v0, .int v2] [.int ((10 : Int32) * v1)] (tX0_cowsIn v0 v2 m r2 q1) (csX0_32 rfl) dX0_asDigits_16 rfl rfl (by decide) (by decide) (Nat.le_of_ble_eq_true rfl) ?_
      show sm_W _ _ _ _ _ 19 [.int v0, .int v1, .int v2] [.int r2, .int ((10 : Int32) * v1)] (sm_hp m)
      refine w_blk bX0_asDigits_19 [.int v0, .int (((10 : Int32) * v1) + r2), .int (v2 + (1 : Int32))] [] (sm_hp m) [] rfl (sm_on) ?_
      refine w_goto (tgt := 4) dX0_asDigits_24 rfl ?_
      exact ih v0 (((10 : Int32) * v1) + r2) (v2 + (1 : Int32)) m r hf
set_option maxRecDepth 10000 in
theorem tX0_asDigits {l : Launch} {al : Bool} (x1 : Int32) (m : sm_S) (r : Int32) (hf : fX0_asDigits x1 m = some r) : sm_Rt l mX0_asDigits 2 0 0 al al [.int x1] (sm_hp m) (some (.int r), sm_hp m) := by
  refine sm_Rt.ofW (L := [.int x1, .retAddr 0, .retAddr 0]) (by decide) (Nat.le_of_ble_eq_true rfl) rfl ?_
  unfold fX0_asDigits at hf
  refine w_blk bX0_asDigits_0 [.int x1, .int (0 : Int32), .int (0 : Int32)] [] (sm_hp m) [] rfl (sm_on) ?_
  exact tX0_asDigits_4 sm_fu x1 (0 : Int32) (0 : Int32) m r hf
set_option maxRecDepth 10000 in
theorem tX11_lands {l : Launch} {al : Bool} (m : sm_S) (r : Int32 × sm_S) (hf : fX11_lands m = some r) : sm_Rt l mX11_lands 6 0 0 al al [.ref 0] (sm_hp m) (some (.int r.1), sm_hp r.2) := by
  refine sm_Rt.ofW (L := [.ref 0, .retAddr 0]) (by decide) (Nat.le_of_ble_eq_true rfl) rfl ?_
  unfold fX11_lands at hf
  refine w_blk bX11_lands_0 [.ref 0, .retAddr 0] [.ref 3, .ref 51] (sm_hp m) [] rfl (sm_on) ?_
  replace hf := sm_bd hf
  obtain ⟨r2, q1, hf⟩ := hf
  refine w_callV [.ref 3] [] (tX0_findWays m r2 q1) (cvX11_344 rfl) dX11_lands_8 rfl rfl (by decide) (by decide) rfl (Nat.le_of_ble_eq_true rfl) ?_
  show sm_W _ _ _ _ _ 11 [.ref 0, .retAddr 0] [.int r2.1] (sm_hp r2.2)
  refine w_blk bX11_lands_11 [.ref 0, .int r2.1] [.ref 14] (sm_hp r2.2) [] rfl (sm_on) ?_
  replace hf := sm_bd hf
  obtain ⟨m4, q3, hf⟩ := hf
  refine w_callV [] [] (tX5_clear r2.2 m4 q3) (cvX11_347 rfl) dX11_lands_16 rfl rfl (by decide) (by decide) rfl (Nat.le_of_ble_eq_true rfl) ?_
  show sm_W _ _ _ _ _ 19 [.ref 0, .int r2.1] [] (sm_hp m4)
  refine w_blk bX11_lands_19 [.ref 0, .int r2.1] [.int r2.1] (sm_hp m4) [] rfl (sm_on) ?_
  refine w_if_le (tgt := 40) dX11_lands_20 rfl (fun hc => ?_) (fun hc => ?_)
  · replace hf := sm_ift hc hf
    refine w_blk bX11_lands_40 [.ref 0, .int r2.1] [.int r2.1] (sm_hp m4) [] rfl (sm_on) ?_
    obtain rfl := Option.some.inj hf
    exact w_reti dX11_lands_41 rfl rfl
  · replace hf := sm_iff hc hf
    refine w_blk bX11_lands_23 [.ref 0, .int r2.1] [.int (m4.1 51 1), .ref 14] (sm_hp m4) [] rfl (sm_on) ?_
    replace hf := sm_bd hf
    obtain ⟨r6, q5, hf⟩ := hf
    refine w_callS [.int (m4.1 51 1)] [.ref 14] (tX0_asDigits (m4.1 51 1) m4 r6 q5) (csX11_353 rfl) dX11_lands_34 rfl rfl (by decide) (by decide) (Nat.le_of_ble_eq_true rfl) ?_
    show sm_W _ _ _ _ _ 37 [.ref 0, .int r2.1] [.int r6, .ref 14] (sm_hp m4)
    replace hf := sm_bd hf
    obtain ⟨m8, q7, hf⟩ := hf
    refine w_callV [.int r6] [] (tX5_add r6 m4 m8 q7) (cvX11_231 rfl) dX11_lands_37 rfl rfl (by decide) (by decide) rfl (Nat.le_of_ble_eq_true rfl) ?_
    show sm_W _ _ _ _ _ 40 [.ref 0, .int r2.1] [] (sm_hp m8)
    refine w_blk bX11_lands_40 [.ref 0, .int r2.1] [.int r2.1] (sm_hp m8) [] rfl (sm_on) ?_
    obtain rfl := Option.some.inj hf
    exact w_reti dX11_lands_41 rfl rfl
set_option maxRecDepth 10000 in
theorem tX0_isFound {l : Launch} {al : Bool} (x1 : Int32) (m : sm_S) (r : Int32) (hf : fX0_isFound x1 m = some r) : sm_Rt l mX0_isFound 1 0 0 al al [.ref 51, .int x1] (sm_hp m) (some (.int r), sm_hp m) := by
  refine sm_Rt.ofW (L := [.ref 51, .int x1]) (by decide) (Nat.le_of_ble_eq_true rfl) rfl ?_
  unfold fX0_isFound at hf
  replace hf := sm_ck hf
  obtain ⟨q1, hf⟩ := hf
  refine w_blk bX0_isFound_0 [.ref 51, .int x1] [.int (lg_cmp (((m.2 52 (x1 >>> ((6 : Int32) &&& 31)).toNatClampNeg) >>> (((x1 &&& (63 : Int32))).toInt64 &&& 63)) &&& (1 : Int64)) (0 : Int64))] (sm_hp m) [((x1 >>> ((6 : Int32) &&& 31)), 64)] rfl (sm_oc q1 (sm_on)) ?_
  refine w_if_eq (tgt := 25) dX0_isFound_18 rfl (fun hc => ?_) (fun hc => ?_)
  · replace hf := sm_ift hc hf
    refine w_blk bX0_isFound_25 [.ref 51, .int x1] [.int (0 : Int32)] (sm_hp m) [] rfl (sm_on) ?_
    obtain rfl := Option.some.inj hf
    exact w_reti dX0_isFound_26 rfl sm_nb0
  · replace hf := sm_iff hc hf
    refine w_blk bX0_isFound_21 [.ref 51, .int x1] [.int (1 : Int32)] (sm_hp m) [] rfl (sm_on) ?_
    refine w_goto (tgt := 26) dX0_isFound_22 rfl ?_
    obtain rfl := Option.some.inj hf
    exact w_reti dX0_isFound_26 rfl sm_nb1
set_option maxRecDepth 10000 in
theorem tX0_differences_4 {l : Launch} {al : Bool} : ∀ (n : Nat) (v1 : Int32) (v2 : Int32) (m : sm_S) (r : Int32), fX0_differences_4 n v1 v2 m = some r → sm_W l mX0_differences 2 al (some (.int r), sm_hp m) 4 [.ref 51, .int v1, .int v2] [] (sm_hp m) := by
  intro n
  induction n with
  | zero =>
    intro v1 v2 m r hf
    unfold fX0_differences_4 at hf
    cases hf
  | succ n ih =>
    intro v1 v2 m r hf
    unfold fX0_differences_4 at hf
    refine w_blk bX0_differences_4 [.ref 51, .int v1, .int v2] [.int (4096 : Int32), .int v2] (sm_hp m) [] rfl (sm_on) ?_
    refine w_icmp_ge (tgt := 34) dX0_differences_8 rfl (fun hc => ?_) (fun hc => ?_)
    · replace hf := sm_ift hc hf
      refine w_blk bX0_differences_34 [.ref 51, .int v1, .int v2] [.int v1] (sm_hp m) [] rfl (sm_on) ?_
      obtain rfl := Option.some.inj hf
      exact w_reti dX0_differences_35 rfl rfl
    · replace hf := sm_iff hc hf
      refine w_blk bX0_differences_11 [.ref 51, .int v1, .int v2] [.int v2, .ref 51] (sm_hp m) [] rfl (sm_on) ?_
      replace hf := sm_bd hf
      obtain ⟨r2, q1, hf⟩ := hf
      refine w_callV [.int v2] [] (tX0_isFound v2 m r2 q1) (cvX0_59 rfl) dX0_differences_13 rfl rfl (by decide) (by decide) rfl (Nat.le_of_ble_eq_true rfl) ?_
      show sm_W _ _ _ _ _ 16 [.ref 51, .int v1, .int v2] [.int r2] (sm_hp m)
      refine w_if_eq (tgt := 28) dX0_differences_16 rfl (fun hc => ?_) (fun hc => ?_)
      · replace hf := sm_ift hc hf
        refine w_blk bX0_differences_28 [.ref 51, .int v1, .int (v2 + (1 : Int32))] [] (sm_hp m) [] rfl (sm_on) ?_
        refine w_goto (tgt := 4) dX0_differences_31 rfl ?_
        exact ih v1 (v2 + (1 : Int32)) m r hf
      · replace hf := sm_iff hc hf
        refine w_blk bX0_differences_19 [.ref 51, .int (v1 ||| (v2 ^^^ (m.1 51 1))), .int v2] [] (sm_hp m) [] rfl (sm_on) ?_
        refine w_blk bX0_differences_28 [.ref 51, .int (v1 ||| (v2 ^^^ (m.1 51 1))), .int (v2 + (1 : Int32))] [] (sm_hp m) [] rfl (sm_on) ?_
        refine w_goto (tgt := 4) dX0_differences_31 rfl ?_
        exact ih (v1 ||| (v2 ^^^ (m.1 51 1))) (v2 + (1 : Int32)) m r hf
set_option maxRecDepth 10000 in
theorem tX0_differences {l : Launch} {al : Bool} (m : sm_S) (r : Int32) (hf : fX0_differences m = some r) : sm_Rt l mX0_differences 2 0 0 al al [.ref 51] (sm_hp m) (some (.int r), sm_hp m) := by
  refine sm_Rt.ofW (L := [.ref 51, .retAddr 0, .retAddr 0]) (by decide) (Nat.le_of_ble_eq_true rfl) rfl ?_
  unfold fX0_differences at hf
  refine w_blk bX0_differences_0 [.ref 51, .int (0 : Int32), .int (0 : Int32)] [] (sm_hp m) [] rfl (sm_on) ?_
  exact tX0_differences_4 sm_fu (0 : Int32) (0 : Int32) m r hf
set_option maxRecDepth 10000 in
theorem tX11_sure_38 {l : Launch} {al : Bool} : ∀ (n : Nat) (v2 : Int32) (v3 : Int32) (v4 : Int32) (m : sm_S) (r : Int32 × sm_S), fX11_sure_38 n v2 v3 v4 m = some r → sm_W l mX11_sure 6 al (some (.int r.1), sm_hp r.2) 38 [.ref 0, .retAddr 0, .int v2, .int v3, .int v4] [] (sm_hp m) := by
  intro n
  induction n with
  | zero =>
    intro v2 v3 v4 m r hf
    unfold fX11_sure_38 at hf
    cases hf
  | succ n ih =>
    intro v2 v3 v4 m r hf
    unfold fX11_sure_38 at hf
    refine w_blk bX11_sure_38 [.ref 0, .retAddr 0, .int v2, .int v3, .int v4] [.int (6 : Int32), .int v4] (sm_hp m) [] rfl (sm_on) ?_
    refine w_icmp_ge (tgt := 86) dX11_sure_42 rfl (fun hc => ?_) (fun hc => ?_)
    · replace hf := sm_ift hc hf
      refine w_blk bX11_sure_86 [.ref 0, .retAddr 0, .int v2, .int v3, .int v4] [.int v3] (sm_hp m) [] rfl (sm_on) ?_
      obtain rfl := Option.some.inj hf
      exact w_reti dX11_sure_87 rfl rfl
    · replace hf := sm_iff hc hf
      refine w_blk bX11_sure_45 [.ref 0, .retAddr 0, .int v2, .int v3, .int v4] [.int v4, .int v2] (sm_hp m) [] rfl (sm_on) ?_
      replace hf := sm_bd hf
      obtain ⟨r8, q7, hf⟩ := hf
      refine w_callS [.int v2, .int v4] [] (tX0_cowsIn v2 v4 m r8 q7) (csX11_359 rfl) dX11_sure_48 rfl rfl (by decide) (by decide) (Nat.le_of_ble_eq_true rfl) ?_
      show sm_W _ _ _ _ _ 51 [.ref 0, .retAddr 0, .int v2, .int v3, .int v4] [.int r8] (sm_hp m)
      refine w_if_ne (tgt := 80) dX11_sure_51 rfl (fun hc => ?_) (fun hc => ?_)
      · replace hf := sm_iff hc hf
        refine w_blk bX11_sure_80 [.ref 0, .retAddr 0, .int v2, .int v3, .int (v4 + (1 : Int32))] [] (sm_hp m) [] rfl (sm_on) ?_
        refine w_goto (tgt := 38) dX11_sure_83 rfl ?_
        exact ih v2 v3 (v4 + (1 : Int32)) m r hf
      · replace hf := sm_ift hc hf
        refine w_blk bX11_sure_54 [.ref 0, .retAddr 0, .int v2, .int (v3 ||| ((1 : Int32) <<< (v4 &&& 31))), .int v4] [.int v4, .int (m.1 51 1), .ref 14] (sm_hp m) [] rfl (sm_on) ?_
        replace hf := sm_bd hf
        obtain ⟨r10, q9, hf⟩ := hf
        refine w_callS [.int (m.1 51 1), .int v4] [.ref 14] (tX0_cowsIn (m.1 51 1) v4 m r10 q9) (csX11_359 rfl) dX11_sure_74 rfl rfl (by decide) (by decide) (Nat.le_of_ble_eq_true rfl) ?_
        show sm_W _ _ _ _ _ 77 [.ref 0, .retAddr 0, .int v2, .int (v3 ||| ((1 : Int32) <<< (v4 &&& 31))), .int v4] [.int r10, .ref 14] (sm_hp m)
        replace hf := sm_bd hf
        obtain ⟨m12, q11, hf⟩ := hf
        refine w_callV [.int r10] [] (tX5_add r10 m m12 q11) (cvX11_231 rfl) dX11_sure_77 rfl rfl (by decide) (by decide) rfl (Nat.le_of_ble_eq_true rfl) ?_
        show sm_W _ _ _ _ _ 80 [.ref 0, .retAddr 0, .int v2, .int (v3 ||| ((1 : Int32) <<< (v4 &&& 31))), .int v4] [] (sm_hp m12)
        refine w_blk bX11_sure_80 [.ref 0, .retAddr 0, .int v2, .int (v3 ||| ((1 : Int32) <<< (v4 &&& 31))), .int (v4 + (1 : Int32))] [] (sm_hp m12) [] rfl (sm_on) ?_
        refine w_goto (tgt := 38) dX11_sure_83 rfl ?_
        exact ih v2 (v3 ||| ((1 : Int32) <<< (v4 &&& 31))) (v4 + (1 : Int32)) m12 r hf
set_option maxRecDepth 10000 in
theorem tX11_sure {l : Launch} {al : Bool} (m : sm_S) (r : Int32 × sm_S) (hf : fX11_sure m = some r) : sm_Rt l mX11_sure 6 0 0 al al [.ref 0] (sm_hp m) (some (.int r.1), sm_hp r.2) := by
  refine sm_Rt.ofW (L := [.ref 0, .retAddr 0, .retAddr 0, .retAddr 0, .retAddr 0]) (by decide) (Nat.le_of_ble_eq_true rfl) rfl ?_
  unfold fX11_sure at hf
  refine w_blk bX11_sure_0 [.ref 0, .retAddr 0, .retAddr 0, .retAddr 0, .retAddr 0] [.ref 3, .ref 51] (sm_hp m) [] rfl (sm_on) ?_
  replace hf := sm_bd hf
  obtain ⟨r2, q1, hf⟩ := hf
  refine w_callV [.ref 3] [] (tX0_findWays m r2 q1) (cvX11_344 rfl) dX11_sure_8 rfl rfl (by decide) (by decide) rfl (Nat.le_of_ble_eq_true rfl) ?_
  show sm_W _ _ _ _ _ 11 [.ref 0, .retAddr 0, .retAddr 0, .retAddr 0, .retAddr 0] [.int r2.1] (sm_hp r2.2)
  refine w_blk bX11_sure_11 [.ref 0, .int r2.1, .retAddr 0, .retAddr 0, .retAddr 0] [.ref 14] (sm_hp r2.2) [] rfl (sm_on) ?_
  replace hf := sm_bd hf
  obtain ⟨m4, q3, hf⟩ := hf
  refine w_callV [] [] (tX5_clear r2.2 m4 q3) (cvX11_347 rfl) dX11_sure_16 rfl rfl (by decide) (by decide) rfl (Nat.le_of_ble_eq_true rfl) ?_
  show sm_W _ _ _ _ _ 19 [.ref 0, .int r2.1, .retAddr 0, .retAddr 0, .retAddr 0] [] (sm_hp m4)
  refine w_blk bX11_sure_19 [.ref 0, .int r2.1, .retAddr 0, .retAddr 0, .retAddr 0] [.int r2.1] (sm_hp m4) [] rfl (sm_on) ?_
  refine w_if_ne (tgt := 25) dX11_sure_20 rfl (fun hc => ?_) (fun hc => ?_)
  · replace hf := sm_iff hc hf
    refine w_blk bX11_sure_25 [.ref 0, .int r2.1, .retAddr 0, .retAddr 0, .retAddr 0] [.ref 51] (sm_hp m4) [] rfl (sm_on) ?_
    replace hf := sm_bd hf
    obtain ⟨r6, q5, hf⟩ := hf
    refine w_callV [] [] (tX0_differences m4 r6 q5) (cvX11_356 rfl) dX11_sure_29 rfl rfl (by decide) (by decide) rfl (Nat.le_of_ble_eq_true rfl) ?_
    show sm_W _ _ _ _ _ 32 [.ref 0, .int r2.1, .retAddr 0, .retAddr 0, .retAddr 0] [.int r6] (sm_hp m4)
    refine w_blk bX11_sure_32 [.ref 0, .int r2.1, .int r6, .int (0 : Int32), .int (0 : Int32)] [] (sm_hp m4) [] rfl (sm_on) ?_
    refine w_wk [true, false, true, true, true] ?_
    exact tX11_sure_38 sm_fu r6 (0 : Int32) (0 : Int32) m4 r hf
  · replace hf := sm_ift hc hf
    refine w_blk bX11_sure_23 [.ref 0, .int r2.1, .retAddr 0, .retAddr 0, .retAddr 0] [.int (0 : Int32)] (sm_hp m4) [] rfl (sm_on) ?_
    obtain rfl := Option.some.inj hf
    exact w_reti dX11_sure_24 rfl rfl
set_option maxRecDepth 10000 in
theorem tX0_mostLeft_26 {l : Launch} {al : Bool} : ∀ (n : Nat) (v2 : Int32) (v3 : Int32) (v4 : Int32) (m : sm_S) (r : Int32 × sm_S), fX0_mostLeft_26 n v2 v3 v4 m = some r → sm_W l mX0_mostLeft 3 al (some (.int r.1), sm_hp r.2) 26 [.ref 51, .ref 3, .int v2, .int v3, .int v4, .retAddr 0] [] (sm_hp m) := by
  intro n
  induction n with
  | zero =>
    intro v2 v3 v4 m r hf
    unfold fX0_mostLeft_26 at hf
    cases hf
  | succ n ih =>
    intro v2 v3 v4 m r hf
    unfold fX0_mostLeft_26 at hf
    refine w_blk bX0_mostLeft_26 [.ref 51, .ref 3, .int v2, .int v3, .int v4, .retAddr 0] [.int (4096 : Int32), .int v4] (sm_hp m) [] rfl (sm_on) ?_
    refine w_icmp_ge (tgt := 81) dX0_mostLeft_31 rfl (fun hc => ?_) (fun hc => ?_)
    · replace hf := sm_ift hc hf
      refine w_blk bX0_mostLeft_81 [.ref 51, .ref 3, .int v2, .int v3, .int v4, .retAddr 0] [.int v3] (sm_hp m) [] rfl (sm_on) ?_
      obtain rfl := Option.some.inj hf
      exact w_reti dX0_mostLeft_82 rfl rfl
    · replace hf := sm_iff hc hf
      refine w_blk bX0_mostLeft_34 [.ref 51, .ref 3, .int v2, .int v3, .int v4, .retAddr 0] [.int v4, .ref 51] (sm_hp m) [] rfl (sm_on) ?_
      replace hf := sm_bd hf
      obtain ⟨r2, q1, hf⟩ := hf
      refine w_callV [.int v4] [] (tX0_isFound v4 m r2 q1) (cvX0_59 rfl) dX0_mostLeft_37 rfl rfl (by decide) (by decide) rfl (Nat.le_of_ble_eq_true rfl) ?_
      show sm_W _ _ _ _ _ 40 [.ref 51, .ref 3, .int v2, .int v3, .int v4, .retAddr 0] [.int r2] (sm_hp m)
      refine w_if_eq (tgt := 75) dX0_mostLeft_40 rfl (fun hc => ?_) (fun hc => ?_)
      · replace hf := sm_ift hc hf
        refine w_blk bX0_mostLeft_75 [.ref 51, .ref 3, .int v2, .int v3, .int (v4 + (1 : Int32)), .retAddr 0] [] (sm_hp m) [] rfl (sm_on) ?_
        refine w_goto (tgt := 26) dX0_mostLeft_78 rfl ?_
        exact ih v2 v3 (v4 + (1 : Int32)) m r hf
      · replace hf := sm_iff hc hf
        refine w_blk bX0_mostLeft_43 [.ref 51, .ref 3, .int v2, .int v3, .int v4, .retAddr 0] [.int v4, .int v2, .ref 3] (sm_hp m) [] rfl (sm_on) ?_
        replace hf := sm_bd hf
        obtain ⟨r4, q3, hf⟩ := hf
        refine w_callS [.ref 3, .int v2, .int v4] [] (tX0_cowsOver v2 v4 m r4 q3) (csX0_44 rfl) dX0_mostLeft_47 rfl rfl (by decide) (by decide) (Nat.le_of_ble_eq_true rfl) ?_
        show sm_W _ _ _ _ _ 50 [.ref 51, .ref 3, .int v2, .int v3, .int v4, .retAddr 0] [.int r4] (sm_hp m)
        replace hf := sm_ck hf
        obtain ⟨q5, hf⟩ := hf
        replace hf := sm_ck hf
        obtain ⟨q6, hf⟩ := hf
        replace hf := sm_ck hf
        obtain ⟨q7, hf⟩ := hf
        refine w_blk bX0_mostLeft_50 [.ref 51, .ref 3, .int v2, .int (if v3 < ((sm_w1 m 55 (r4).toNatClampNeg ((m.1 55 (r4).toNatClampNeg) + (1 : Int32))).1 55 (r4).toNatClampNeg) then ((sm_w1 m 55 (r4).toNatClampNeg ((m.1 55 (r4).toNatClampNeg) + (1 : Int32))).1 55 (r4).toNatClampNeg) else v3), .int v4, .int r4] [] (sm_hp (sm_w1 m 55 (r4).toNatClampNeg ((m.1 55 (r4).toNatClampNeg) + (1 : Int32)))) [(r4, 7), (r4, 7), (r4, 7)] rfl (sm_oc q5 (sm_oc q6 (sm_oc q7 (sm_on)))) ?_
        refine w_blk bX0_mostLeft_75 [.ref 51, .ref 3, .int v2, .int (if v3 < ((sm_w1 m 55 (r4).toNatClampNeg ((m.1 55 (r4).toNatClampNeg) + (1 : Int32))).1 55 (r4).toNatClampNeg) then ((sm_w1 m 55 (r4).toNatClampNeg ((m.1 55 (r4).toNatClampNeg) + (1 : Int32))).1 55 (r4).toNatClampNeg) else v3), .int (v4 + (1 : Int32)), .int r4] [] (sm_hp (sm_w1 m 55 (r4).toNatClampNeg ((m.1 55 (r4).toNatClampNeg) + (1 : Int32)))) [] rfl (sm_on) ?_
        refine w_goto (tgt := 26) dX0_mostLeft_78 rfl ?_
        refine w_wk [true, true, true, true, true, false] ?_
        exact ih v2 (if v3 < ((sm_w1 m 55 (r4).toNatClampNeg ((m.1 55 (r4).toNatClampNeg) + (1 : Int32))).1 55 (r4).toNatClampNeg) then ((sm_w1 m 55 (r4).toNatClampNeg ((m.1 55 (r4).toNatClampNeg) + (1 : Int32))).1 55 (r4).toNatClampNeg) else v3) (v4 + (1 : Int32)) (sm_w1 m 55 (r4).toNatClampNeg ((m.1 55 (r4).toNatClampNeg) + (1 : Int32))) r hf
set_option maxRecDepth 10000 in
theorem tX0_mostLeft_2 {l : Launch} {al : Bool} : ∀ (n : Nat) (v2 : Int32) (v3 : Int32) (m : sm_S) (r : Int32 × sm_S), fX0_mostLeft_2 n v2 v3 m = some r → sm_W l mX0_mostLeft 3 al (some (.int r.1), sm_hp r.2) 2 [.ref 51, .ref 3, .int v2, .int v3, .retAddr 0, .retAddr 0] [] (sm_hp m) := by
  intro n
  induction n with
  | zero =>
    intro v2 v3 m r hf
    unfold fX0_mostLeft_2 at hf
    cases hf
  | succ n ih =>
    intro v2 v3 m r hf
    unfold fX0_mostLeft_2 at hf
    refine w_blk bX0_mostLeft_2 [.ref 51, .ref 3, .int v2, .int v3, .retAddr 0, .retAddr 0] [.int (6 : Int32), .int v3] (sm_hp m) [] rfl (sm_on) ?_
    refine w_icmp_gt (tgt := 21) dX0_mostLeft_5 rfl (fun hc => ?_) (fun hc => ?_)
    · replace hf := sm_ift hc hf
      refine w_blk bX0_mostLeft_21 [.ref 51, .ref 3, .int v2, .int (0 : Int32), .int (0 : Int32), .retAddr 0] [] (sm_hp m) [] rfl (sm_on) ?_
      exact tX0_mostLeft_26 sm_fu v2 (0 : Int32) (0 : Int32) m r hf
    · replace hf := sm_iff hc hf
      replace hf := sm_ck hf
      obtain ⟨q8, hf⟩ := hf
      refine w_blk bX0_mostLeft_8 [.ref 51, .ref 3, .int v2, .int (v3 + (1 : Int32)), .retAddr 0, .retAddr 0] [] (sm_hp (sm_w1 m 55 (v3).toNatClampNeg (0 : Int32))) [(v3, 7)] rfl (sm_oc q8 (sm_on)) ?_
      refine w_goto (tgt := 2) dX0_mostLeft_18 rfl ?_
      exact ih v2 (v3 + (1 : Int32)) (sm_w1 m 55 (v3).toNatClampNeg (0 : Int32)) r hf
set_option maxRecDepth 10000 in
theorem tX0_mostLeft {l : Launch} {al : Bool} (x1 : Int32) (m : sm_S) (r : Int32 × sm_S) (hf : fX0_mostLeft x1 m = some r) : sm_Rt l mX0_mostLeft 3 0 0 al al [.ref 51, .ref 3, .int x1] (sm_hp m) (some (.int r.1), sm_hp r.2) := by
  refine sm_Rt.ofW (L := [.ref 51, .ref 3, .int x1, .retAddr 0, .retAddr 0, .retAddr 0]) (by decide) (Nat.le_of_ble_eq_true rfl) rfl ?_
  unfold fX0_mostLeft at hf
  refine w_blk bX0_mostLeft_0 [.ref 51, .ref 3, .int x1, .int (0 : Int32), .retAddr 0, .retAddr 0] [] (sm_hp m) [] rfl (sm_on) ?_
  exact tX0_mostLeft_2 sm_fu x1 (0 : Int32) m r hf
set_option maxRecDepth 10000 in
theorem tX11_next_38 {l : Launch} {al : Bool} : ∀ (n : Nat) (v2 : Int32) (v3 : Int32) (v4 : Int32) (m : sm_S) (r : Int32 × sm_S), fX11_next_38 n v2 v3 v4 m = some r → sm_W l mX11_next 6 al (some (.int r.1), sm_hp r.2) 38 [.ref 0, .retAddr 0, .int v2, .int v3, .int v4, .retAddr 0] [] (sm_hp m) := by
  intro n
  induction n with
  | zero =>
    intro v2 v3 v4 m r hf
    unfold fX11_next_38 at hf
    cases hf
  | succ n ih =>
    intro v2 v3 v4 m r hf
    unfold fX11_next_38 at hf
    refine w_blk bX11_next_38 [.ref 0, .retAddr 0, .int v2, .int v3, .int v4, .retAddr 0] [.int (m.1 3 1), .int v4] (sm_hp m) [] rfl (sm_on) ?_
    refine w_icmp_ge (tgt := 83) dX11_next_47 rfl (fun hc => ?_) (fun hc => ?_)
    · replace hf := sm_ift hc hf
      refine w_blk bX11_next_83 [.ref 0, .retAddr 0, .int v2, .int v3, .int v4, .retAddr 0] [.int v3, .ref 14] (sm_hp m) [] rfl (sm_on) ?_
      replace hf := sm_bd hf
      obtain ⟨m4, q3, hf⟩ := hf
      refine w_callV [.int v3] [] (tX5_tell v3 m m4 q3) (cvX11_224 rfl) dX11_next_88 rfl rfl (by decide) (by decide) rfl (Nat.le_of_ble_eq_true rfl) ?_
      show sm_W _ _ _ _ _ 91 [.ref 0, .retAddr 0, .int v2, .int v3, .int v4, .retAddr 0] [] (sm_hp m4)
      refine w_blk bX11_next_91 [.ref 0, .retAddr 0, .int v2, .int v3, .int v4, .retAddr 0] [.int v2] (sm_hp m4) [] rfl (sm_on) ?_
      obtain rfl := Option.some.inj hf
      exact w_reti dX11_next_92 rfl rfl
    · replace hf := sm_iff hc hf
      refine w_blk bX11_next_50 [.ref 0, .retAddr 0, .int v2, .int v3, .int v4, .retAddr 0] [.int v4, .ref 3, .ref 51] (sm_hp m) [] rfl (sm_on) ?_
      replace hf := sm_bd hf
      obtain ⟨r6, q5, hf⟩ := hf
      refine w_callV [.ref 3, .int v4] [] (tX0_mostLeft v4 m r6 q5) (cvX11_362 rfl) dX11_next_60 rfl rfl (by decide) (by decide) rfl (Nat.le_of_ble_eq_true rfl) ?_
      show sm_W _ _ _ _ _ 63 [.ref 0, .retAddr 0, .int v2, .int v3, .int v4, .retAddr 0] [.int r6.1] (sm_hp r6.2)
      refine w_blk bX11_next_63 [.ref 0, .retAddr 0, .int v2, .int v3, .int v4, .int r6.1] [.int v3, .int r6.1] (sm_hp r6.2) [] rfl (sm_on) ?_
      refine w_icmp_ge (tgt := 77) dX11_next_68 rfl (fun hc => ?_) (fun hc => ?_)
      · replace hf := sm_ift hc hf
        refine w_blk bX11_next_77 [.ref 0, .retAddr 0, .int v2, .int v3, .int (v4 + (1 : Int32)), .int r6.1] [] (sm_hp r6.2) [] rfl (sm_on) ?_
        refine w_goto (tgt := 38) dX11_next_80 rfl ?_
        refine w_wk [true, false, true, true, true, false] ?_
        exact ih v2 v3 (v4 + (1 : Int32)) r6.2 r hf
      · replace hf := sm_iff hc hf
        refine w_blk bX11_next_71 [.ref 0, .retAddr 0, .int v4, .int r6.1, .int v4, .int r6.1] [] (sm_hp r6.2) [] rfl (sm_on) ?_
        refine w_blk bX11_next_77 [.ref 0, .retAddr 0, .int v4, .int r6.1, .int (v4 + (1 : Int32)), .int r6.1] [] (sm_hp r6.2) [] rfl (sm_on) ?_
        refine w_goto (tgt := 38) dX11_next_80 rfl ?_
        refine w_wk [true, false, true, true, true, false] ?_
        exact ih v4 r6.1 (v4 + (1 : Int32)) r6.2 r hf
set_option maxRecDepth 10000 in
theorem tX11_next {l : Launch} {al : Bool} (m : sm_S) (r : Int32 × sm_S) (hf : fX11_next m = some r) : sm_Rt l mX11_next 6 0 0 al al [.ref 0] (sm_hp m) (some (.int r.1), sm_hp r.2) := by
  refine sm_Rt.ofW (L := [.ref 0, .retAddr 0, .retAddr 0, .retAddr 0, .retAddr 0, .retAddr 0]) (by decide) (Nat.le_of_ble_eq_true rfl) rfl ?_
  unfold fX11_next at hf
  refine w_blk bX11_next_0 [.ref 0, .retAddr 0, .retAddr 0, .retAddr 0, .retAddr 0, .retAddr 0] [.ref 3, .ref 51] (sm_hp m) [] rfl (sm_on) ?_
  replace hf := sm_bd hf
  obtain ⟨r2, q1, hf⟩ := hf
  refine w_callV [.ref 3] [] (tX0_findWays m r2 q1) (cvX11_344 rfl) dX11_next_8 rfl rfl (by decide) (by decide) rfl (Nat.le_of_ble_eq_true rfl) ?_
  show sm_W _ _ _ _ _ 11 [.ref 0, .retAddr 0, .retAddr 0, .retAddr 0, .retAddr 0, .retAddr 0] [.int r2.1] (sm_hp r2.2)
  refine w_blk bX11_next_11 [.ref 0, .int r2.1, .retAddr 0, .retAddr 0, .retAddr 0, .retAddr 0] [.int r2.1] (sm_hp r2.2) [] rfl (sm_on) ?_
  refine w_if_eq (tgt := 26) dX11_next_13 rfl (fun hc => ?_) (fun hc => ?_)
  · replace hf := sm_ift hc hf
    refine w_blk bX11_next_26 [.ref 0, .int r2.1, .retAddr 0, .retAddr 0, .retAddr 0, .retAddr 0] [.int (-2 : Int32)] (sm_hp r2.2) [] rfl (sm_on) ?_
    obtain rfl := Option.some.inj hf
    exact w_reti dX11_next_28 rfl rfl
  · replace hf := sm_iff hc hf
    refine w_blk bX11_next_16 [.ref 0, .int r2.1, .retAddr 0, .retAddr 0, .retAddr 0, .retAddr 0] [.int (r2.2.1 3 1)] (sm_hp r2.2) [] rfl (sm_on) ?_
    refine w_if_ne (tgt := 29) dX11_next_23 rfl (fun hc => ?_) (fun hc => ?_)
    · replace hf := sm_iff hc hf
      refine w_blk bX11_next_29 [.ref 0, .int r2.1, .int (0 : Int32), .int (4097 : Int32), .int (0 : Int32), .retAddr 0] [] (sm_hp r2.2) [] rfl (sm_on) ?_
      refine w_wk [true, false, true, true, true, false] ?_
      exact tX11_next_38 sm_fu (0 : Int32) (4097 : Int32) (0 : Int32) r2.2 r hf
    · replace hf := sm_ift hc hf
      refine w_blk bX11_next_26 [.ref 0, .int r2.1, .retAddr 0, .retAddr 0, .retAddr 0, .retAddr 0] [.int (-2 : Int32)] (sm_hp r2.2) [] rfl (sm_on) ?_
      obtain rfl := Option.some.inj hf
      exact w_reti dX11_next_28 rfl rfl
set_option maxRecDepth 10000 in
theorem tX0_liesOf_5 {l : Launch} {al : Bool} : ∀ (n : Nat) (v2 : Int32) (v3 : Int32) (v4 : Int32) (m : sm_S) (r : Int32), fX0_liesOf_5 n v2 v3 v4 m = some r → sm_W l mX0_liesOf 4 al (some (.int r), sm_hp m) 5 [.ref 51, .ref 3, .int v2, .int v3, .int v4] [] (sm_hp m) := by
  intro n
  induction n with
  | zero =>
    intro v2 v3 v4 m r hf
    unfold fX0_liesOf_5 at hf
    cases hf
  | succ n ih =>
    intro v2 v3 v4 m r hf
    unfold fX0_liesOf_5 at hf
    refine w_blk bX0_liesOf_5 [.ref 51, .ref 3, .int v2, .int v3, .int v4] [.int (m.1 51 0), .int v4] (sm_hp m) [] rfl (sm_on) ?_
    refine w_icmp_ge (tgt := 38) dX0_liesOf_11 rfl (fun hc => ?_) (fun hc => ?_)
    · replace hf := sm_ift hc hf
      refine w_blk bX0_liesOf_38 [.ref 51, .ref 3, .int v2, .int v3, .int v4] [.int v3] (sm_hp m) [] rfl (sm_on) ?_
      obtain rfl := Option.some.inj hf
      exact w_reti dX0_liesOf_39 rfl rfl
    · replace hf := sm_iff hc hf
      refine w_blk bX0_liesOf_14 [.ref 51, .ref 3, .int v2, .int v3, .int v4] [.int v4, .int v2, .ref 3, .ref 51] (sm_hp m) [] rfl (sm_on) ?_
      replace hf := sm_bd hf
      obtain ⟨r2, q1, hf⟩ := hf
      refine w_callV [.ref 3, .int v2, .int v4] [] (tX0_isLie v2 v4 m r2 q1) (cvX0_48 rfl) dX0_liesOf_19 rfl rfl (by decide) (by decide) rfl (Nat.le_of_ble_eq_true rfl) ?_
      show sm_W _ _ _ _ _ 22 [.ref 51, .ref 3, .int v2, .int v3, .int v4] [.int r2] (sm_hp m)
      refine w_if_eq (tgt := 32) dX0_liesOf_22 rfl (fun hc => ?_) (fun hc => ?_)
      · replace hf := sm_ift hc hf
        refine w_blk bX0_liesOf_32 [.ref 51, .ref 3, .int v2, .int v3, .int (v4 + (1 : Int32))] [] (sm_hp m) [] rfl (sm_on) ?_
        refine w_goto (tgt := 5) dX0_liesOf_35 rfl ?_
        exact ih v2 v3 (v4 + (1 : Int32)) m r hf
      · replace hf := sm_iff hc hf
        refine w_blk bX0_liesOf_25 [.ref 51, .ref 3, .int v2, .int (v3 ||| ((1 : Int32) <<< (v4 &&& 31))), .int v4] [] (sm_hp m) [] rfl (sm_on) ?_
        refine w_blk bX0_liesOf_32 [.ref 51, .ref 3, .int v2, .int (v3 ||| ((1 : Int32) <<< (v4 &&& 31))), .int (v4 + (1 : Int32))] [] (sm_hp m) [] rfl (sm_on) ?_
        refine w_goto (tgt := 5) dX0_liesOf_35 rfl ?_
        exact ih v2 (v3 ||| ((1 : Int32) <<< (v4 &&& 31))) (v4 + (1 : Int32)) m r hf
set_option maxRecDepth 10000 in
theorem tX0_liesOf {l : Launch} {al : Bool} (x1 : Int32) (m : sm_S) (r : Int32) (hf : fX0_liesOf x1 m = some r) : sm_Rt l mX0_liesOf 4 0 0 al al [.ref 51, .ref 3, .int x1] (sm_hp m) (some (.int r), sm_hp m) := by
  refine sm_Rt.ofW (L := [.ref 51, .ref 3, .int x1, .retAddr 0, .retAddr 0]) (by decide) (Nat.le_of_ble_eq_true rfl) rfl ?_
  unfold fX0_liesOf at hf
  refine w_blk bX0_liesOf_0 [.ref 51, .ref 3, .int x1, .int (0 : Int32), .int (0 : Int32)] [] (sm_hp m) [] rfl (sm_on) ?_
  exact tX0_liesOf_5 sm_fu x1 (0 : Int32) (0 : Int32) m r hf
set_option maxRecDepth 10000 in
theorem tX0_fewestLies_7 {l : Launch} {al : Bool} : ∀ (n : Nat) (v2 : Int32) (v3 : Int32) (m : sm_S) (r : Int32), fX0_fewestLies_7 n v2 v3 m = some r → sm_W l mX0_fewestLies 5 al (some (.int r), sm_hp m) 7 [.ref 51, .ref 3, .int v2, .int v3, .retAddr 0, .retAddr 0] [] (sm_hp m) := by
  intro n
  induction n with
  | zero =>
    intro v2 v3 m r hf
    unfold fX0_fewestLies_7 at hf
    cases hf
  | succ n ih =>
    intro v2 v3 m r hf
    unfold fX0_fewestLies_7 at hf
    refine w_blk bX0_fewestLies_7 [.ref 51, .ref 3, .int v2, .int v3, .retAddr 0, .retAddr 0] [.int (4096 : Int32), .int v3] (sm_hp m) [] rfl (sm_on) ?_
    refine w_icmp_ge (tgt := 59) dX0_fewestLies_11 rfl (fun hc => ?_) (fun hc => ?_)
    · replace hf := sm_ift hc hf
      refine w_blk bX0_fewestLies_59 [.ref 51, .ref 3, .int v2, .int v3, .retAddr 0, .retAddr 0] [.int v2] (sm_hp m) [] rfl (sm_on) ?_
      obtain rfl := Option.some.inj hf
      exact w_reti dX0_fewestLies_60 rfl rfl
    · replace hf := sm_iff hc hf
      refine w_blk bX0_fewestLies_14 [.ref 51, .ref 3, .int v2, .int v3, .retAddr 0, .retAddr 0] [.int v3, .ref 3, .ref 51] (sm_hp m) [] rfl (sm_on) ?_
      replace hf := sm_bd hf
      obtain ⟨r4, q3, hf⟩ := hf
      refine w_callV [.ref 3, .int v3] [] (tX0_liesOf v3 m r4 q3) (cvX0_68 rfl) dX0_fewestLies_17 rfl rfl (by decide) (by decide) rfl (Nat.le_of_ble_eq_true rfl) ?_
      show sm_W _ _ _ _ _ 20 [.ref 51, .ref 3, .int v2, .int v3, .retAddr 0, .retAddr 0] [.int r4] (sm_hp m)
      refine w_blk bX0_fewestLies_20 [.ref 51, .ref 3, .int v2, .int v3, .int r4, .retAddr 0] [.int r4] (sm_hp m) [] rfl (sm_on) ?_
      replace hf := sm_bd hf
      obtain ⟨r6, q5, hf⟩ := hf
      refine w_callS [.int r4] [] (tJ6_bitCount_0f7a4 r4 m r6 q5) (csX0_72 rfl) dX0_fewestLies_24 rfl rfl (by decide) (by decide) (Nat.le_of_ble_eq_true rfl) ?_
      show sm_W _ _ _ _ _ 27 [.ref 51, .ref 3, .int v2, .int v3, .int r4, .retAddr 0] [.int r6] (sm_hp m)
      refine w_blk bX0_fewestLies_27 [.ref 51, .ref 3, .int v2, .int v3, .int r4, .retAddr 0] [.int v2, .int r6] (sm_hp m) [] rfl (sm_on) ?_
      replace hf := sm_bd hf
      obtain ⟨r8, q7, hf⟩ := hf
      refine w_callS [.int v2] [.int r6] (tJ6_bitCount_0f7a4 v2 m r8 q7) (csX0_72 rfl) dX0_fewestLies_28 rfl rfl (by decide) (by decide) (Nat.le_of_ble_eq_true rfl) ?_
      show sm_W _ _ _ _ _ 31 [.ref 51, .ref 3, .int v2, .int v3, .int r4, .retAddr 0] [.int r8, .int r6] (sm_hp m)
      refine w_blk bX0_fewestLies_31 [.ref 51, .ref 3, .int v2, .int v3, .int r4, .int (r6 - r8)] [.int (r6 - r8)] (sm_hp m) [] rfl (sm_on) ?_
      refine w_if_lt (tgt := 50) dX0_fewestLies_36 rfl (fun hc => ?_) (fun hc => ?_)
      · replace hf := sm_ift hc hf
        refine w_blk bX0_fewestLies_50 [.ref 51, .ref 3, .int r4, .int v3, .int r4, .int (r6 - r8)] [] (sm_hp m) [] rfl (sm_on) ?_
        refine w_blk bX0_fewestLies_53 [.ref 51, .ref 3, .int r4, .int (v3 + (1 : Int32)), .int r4, .int (r6 - r8)] [] (sm_hp m) [] rfl (sm_on) ?_
        refine w_goto (tgt := 7) dX0_fewestLies_56 rfl ?_
        refine w_wk [true, true, true, true, false, false] ?_
        exact ih r4 (v3 + (1 : Int32)) m r hf
      · replace hf := sm_iff hc hf
        refine w_blk bX0_fewestLies_39 [.ref 51, .ref 3, .int v2, .int v3, .int r4, .int (r6 - r8)] [.int (r6 - r8)] (sm_hp m) [] rfl (sm_on) ?_
        refine w_if_ne (tgt := 53) dX0_fewestLies_41 rfl (fun hc => ?_) (fun hc => ?_)
        · replace hf := sm_iff hc hf
          refine w_blk bX0_fewestLies_53 [.ref 51, .ref 3, .int v2, .int (v3 + (1 : Int32)), .int r4, .int (r6 - r8)] [] (sm_hp m) [] rfl (sm_on) ?_
          refine w_goto (tgt := 7) dX0_fewestLies_56 rfl ?_
          refine w_wk [true, true, true, true, false, false] ?_
          exact ih v2 (v3 + (1 : Int32)) m r hf
        · replace hf := sm_ift hc hf
          refine w_blk bX0_fewestLies_44 [.ref 51, .ref 3, .int v2, .int v3, .int r4, .int (r6 - r8)] [.int v2, .int r4] (sm_hp m) [] rfl (sm_on) ?_
          refine w_icmp_ge (tgt := 53) dX0_fewestLies_47 rfl (fun hc => ?_) (fun hc => ?_)
          · replace hf := sm_ift hc hf
            refine w_blk bX0_fewestLies_53 [.ref 51, .ref 3, .int v2, .int (v3 + (1 : Int32)), .int r4, .int (r6 - r8)] [] (sm_hp m) [] rfl (sm_on) ?_
            refine w_goto (tgt := 7) dX0_fewestLies_56 rfl ?_
            refine w_wk [true, true, true, true, false, false] ?_
            exact ih v2 (v3 + (1 : Int32)) m r hf
          · replace hf := sm_iff hc hf
            refine w_blk bX0_fewestLies_50 [.ref 51, .ref 3, .int r4, .int v3, .int r4, .int (r6 - r8)] [] (sm_hp m) [] rfl (sm_on) ?_
            refine w_blk bX0_fewestLies_53 [.ref 51, .ref 3, .int r4, .int (v3 + (1 : Int32)), .int r4, .int (r6 - r8)] [] (sm_hp m) [] rfl (sm_on) ?_
            refine w_goto (tgt := 7) dX0_fewestLies_56 rfl ?_
            refine w_wk [true, true, true, true, false, false] ?_
            exact ih r4 (v3 + (1 : Int32)) m r hf
set_option maxRecDepth 10000 in
theorem tX0_fewestLies {l : Launch} {al : Bool} (m : sm_S) (r : Int32) (hf : fX0_fewestLies m = some r) : sm_Rt l mX0_fewestLies 5 0 0 al al [.ref 51, .ref 3] (sm_hp m) (some (.int r), sm_hp m) := by
  refine sm_Rt.ofW (L := [.ref 51, .ref 3, .retAddr 0, .retAddr 0, .retAddr 0, .retAddr 0]) (by decide) (Nat.le_of_ble_eq_true rfl) rfl ?_
  unfold fX0_fewestLies at hf
  refine w_blk bX0_fewestLies_0 [.ref 51, .ref 3, .retAddr 0, .retAddr 0, .retAddr 0, .retAddr 0] [.ref 51] (sm_hp m) [] rfl (sm_on) ?_
  replace hf := sm_bd hf
  obtain ⟨r2, q1, hf⟩ := hf
  refine w_callV [] [] (tX0_all m r2 q1) (cvX0_52 rfl) dX0_fewestLies_1 rfl rfl (by decide) (by decide) rfl (Nat.le_of_ble_eq_true rfl) ?_
  show sm_W _ _ _ _ _ 4 [.ref 51, .ref 3, .retAddr 0, .retAddr 0, .retAddr 0, .retAddr 0] [.int r2] (sm_hp m)
  refine w_blk bX0_fewestLies_4 [.ref 51, .ref 3, .int r2, .int (0 : Int32), .retAddr 0, .retAddr 0] [] (sm_hp m) [] rfl (sm_on) ?_
  exact tX0_fewestLies_7 sm_fu r2 (0 : Int32) m r hf
set_option maxRecDepth 10000 in
theorem tX11_lies {l : Launch} {al : Bool} (m : sm_S) (r : Int32 × sm_S) (hf : fX11_lies m = some r) : sm_Rt l mX11_lies 6 0 0 al al [.ref 0] (sm_hp m) (some (.int r.1), sm_hp r.2) := by
  refine sm_Rt.ofW (L := [.ref 0, .retAddr 0]) (by decide) (Nat.le_of_ble_eq_true rfl) rfl ?_
  unfold fX11_lies at hf
  refine w_blk bX11_lies_0 [.ref 0, .retAddr 0] [.ref 3, .ref 51] (sm_hp m) [] rfl (sm_on) ?_
  replace hf := sm_bd hf
  obtain ⟨r2, q1, hf⟩ := hf
  refine w_callV [.ref 3] [] (tX0_fewestLies m r2 q1) (cvX11_365 rfl) dX11_lies_8 rfl rfl (by decide) (by decide) rfl (Nat.le_of_ble_eq_true rfl) ?_
  show sm_W _ _ _ _ _ 11 [.ref 0, .retAddr 0] [.int r2] (sm_hp m)
  refine w_blk bX11_lies_11 [.ref 0, .int r2] [.int r2, .ref 14] (sm_hp m) [] rfl (sm_on) ?_
  replace hf := sm_bd hf
  obtain ⟨m4, q3, hf⟩ := hf
  refine w_callV [.int r2] [] (tX5_tell r2 m m4 q3) (cvX11_224 rfl) dX11_lies_17 rfl rfl (by decide) (by decide) rfl (Nat.le_of_ble_eq_true rfl) ?_
  show sm_W _ _ _ _ _ 20 [.ref 0, .int r2] [] (sm_hp m4)
  refine w_blk bX11_lies_20 [.ref 0, .int r2] [.int r2] (sm_hp m4) [] rfl (sm_on) ?_
  replace hf := sm_bd hf
  obtain ⟨r6, q5, hf⟩ := hf
  refine w_callS [.int r2] [] (tJ6_bitCount_0f7a4 r2 m4 r6 q5) (csX11_279 rfl) dX11_lies_21 rfl rfl (by decide) (by decide) (Nat.le_of_ble_eq_true rfl) ?_
  show sm_W _ _ _ _ _ 24 [.ref 0, .int r2] [.int r6] (sm_hp m4)
  obtain rfl := Option.some.inj hf
  exact w_reti dX11_lies_24 rfl rfl
set_option maxRecDepth 10000 in
theorem tX0_hasWay_2 {l : Launch} {al : Bool} : ∀ (n : Nat) (v2 : Int32) (v3 : Int32) (m : sm_S) (r : Int32), fX0_hasWay_2 n v2 v3 m = some r → sm_W l mX0_hasWay 5 al (some (.int r), sm_hp m) 2 [.ref 51, .ref 3, .int v2, .int v3] [] (sm_hp m) := by
  intro n
  induction n with
  | zero =>
    intro v2 v3 m r hf
    unfold fX0_hasWay_2 at hf
    cases hf
  | succ n ih =>
    intro v2 v3 m r hf
    unfold fX0_hasWay_2 at hf
    refine w_blk bX0_hasWay_2 [.ref 51, .ref 3, .int v2, .int v3] [.int (4096 : Int32), .int v3] (sm_hp m) [] rfl (sm_on) ?_
    refine w_icmp_ge (tgt := 27) dX0_hasWay_6 rfl (fun hc => ?_) (fun hc => ?_)
    · replace hf := sm_ift hc hf
      refine w_blk bX0_hasWay_27 [.ref 51, .ref 3, .int v2, .int v3] [.int (0 : Int32)] (sm_hp m) [] rfl (sm_on) ?_
      obtain rfl := Option.some.inj hf
      exact w_reti dX0_hasWay_28 rfl sm_nb0
    · replace hf := sm_iff hc hf
      refine w_blk bX0_hasWay_9 [.ref 51, .ref 3, .int v2, .int v3] [.int v2, .int v3, .ref 3, .ref 51] (sm_hp m) [] rfl (sm_on) ?_
      replace hf := sm_bd hf
      obtain ⟨r2, q1, hf⟩ := hf
      refine w_callV [.ref 3, .int v3, .int v2] [] (tX0_allHold v3 v2 m r2 q1) (cvX0_56 rfl) dX0_hasWay_13 rfl rfl (by decide) (by decide) rfl (Nat.le_of_ble_eq_true rfl) ?_
      show sm_W _ _ _ _ _ 16 [.ref 51, .ref 3, .int v2, .int v3] [.int r2] (sm_hp m)
      refine w_if_eq (tgt := 21) dX0_hasWay_16 rfl (fun hc => ?_) (fun hc => ?_)
      · replace hf := sm_ift hc hf
        refine w_blk bX0_hasWay_21 [.ref 51, .ref 3, .int v2, .int (v3 + (1 : Int32))] [] (sm_hp m) [] rfl (sm_on) ?_
        refine w_goto (tgt := 2) dX0_hasWay_24 rfl ?_
        exact ih v2 (v3 + (1 : Int32)) m r hf
      · replace hf := sm_iff hc hf
        refine w_blk bX0_hasWay_19 [.ref 51, .ref 3, .int v2, .int v3] [.int (1 : Int32)] (sm_hp m) [] rfl (sm_on) ?_
        obtain rfl := Option.some.inj hf
        exact w_reti dX0_hasWay_20 rfl sm_nb1
set_option maxRecDepth 10000 in
theorem tX0_hasWay {l : Launch} {al : Bool} (x1 : Int32) (m : sm_S) (r : Int32) (hf : fX0_hasWay x1 m = some r) : sm_Rt l mX0_hasWay 5 0 0 al al [.ref 51, .ref 3, .int x1] (sm_hp m) (some (.int r), sm_hp m) := by
  refine sm_Rt.ofW (L := [.ref 51, .ref 3, .int x1, .retAddr 0]) (by decide) (Nat.le_of_ble_eq_true rfl) rfl ?_
  unfold fX0_hasWay at hf
  refine w_blk bX0_hasWay_0 [.ref 51, .ref 3, .int x1, .int (0 : Int32)] [] (sm_hp m) [] rfl (sm_on) ?_
  exact tX0_hasWay_2 sm_fu x1 (0 : Int32) m r hf
set_option maxRecDepth 10000 in
theorem tX0_firstWithoutWays_2 {l : Launch} {al : Bool} : ∀ (n : Nat) (v2 : Int32) (m : sm_S) (r : Int32), fX0_firstWithoutWays_2 n v2 m = some r → sm_W l mX0_firstWithoutWays 6 al (some (.int r), sm_hp m) 2 [.ref 51, .ref 3, .int v2] [] (sm_hp m) := by
  intro n
  induction n with
  | zero =>
    intro v2 m r hf
    unfold fX0_firstWithoutWays_2 at hf
    cases hf
  | succ n ih =>
    intro v2 m r hf
    unfold fX0_firstWithoutWays_2 at hf
    refine w_blk bX0_firstWithoutWays_2 [.ref 51, .ref 3, .int v2] [.int (m.1 51 0), .int v2] (sm_hp m) [] rfl (sm_on) ?_
    refine w_icmp_ge (tgt := 31) dX0_firstWithoutWays_7 rfl (fun hc => ?_) (fun hc => ?_)
    · replace hf := sm_ift hc hf
      refine w_blk bX0_firstWithoutWays_31 [.ref 51, .ref 3, .int v2] [.int (-1 : Int32)] (sm_hp m) [] rfl (sm_on) ?_
      obtain rfl := Option.some.inj hf
      exact w_reti dX0_firstWithoutWays_32 rfl rfl
    · replace hf := sm_iff hc hf
      refine w_blk bX0_firstWithoutWays_10 [.ref 51, .ref 3, .int v2] [.int (((2 : Int32) <<< (v2 &&& 31)) - (1 : Int32)), .ref 3, .ref 51] (sm_hp m) [] rfl (sm_on) ?_
      replace hf := sm_bd hf
      obtain ⟨r2, q1, hf⟩ := hf
      refine w_callV [.ref 3, .int (((2 : Int32) <<< (v2 &&& 31)) - (1 : Int32))] [] (tX0_hasWay (((2 : Int32) <<< (v2 &&& 31)) - (1 : Int32)) m r2 q1) (cvX0_78 rfl) dX0_firstWithoutWays_17 rfl rfl (by decide) (by decide) rfl (Nat.le_of_ble_eq_true rfl) ?_
      show sm_W _ _ _ _ _ 20 [.ref 51, .ref 3, .int v2] [.int r2] (sm_hp m)
      refine w_if_ne (tgt := 25) dX0_firstWithoutWays_20 rfl (fun hc => ?_) (fun hc => ?_)
      · replace hf := sm_iff hc hf
        refine w_blk bX0_firstWithoutWays_25 [.ref 51, .ref 3, .int (v2 + (1 : Int32))] [] (sm_hp m) [] rfl (sm_on) ?_
        refine w_goto (tgt := 2) dX0_firstWithoutWays_28 rfl ?_
        exact ih (v2 + (1 : Int32)) m r hf
      · replace hf := sm_ift hc hf
        refine w_blk bX0_firstWithoutWays_23 [.ref 51, .ref 3, .int v2] [.int v2] (sm_hp m) [] rfl (sm_on) ?_
        obtain rfl := Option.some.inj hf
        exact w_reti dX0_firstWithoutWays_24 rfl rfl
set_option maxRecDepth 10000 in
theorem tX0_firstWithoutWays {l : Launch} {al : Bool} (m : sm_S) (r : Int32) (hf : fX0_firstWithoutWays m = some r) : sm_Rt l mX0_firstWithoutWays 6 0 0 al al [.ref 51, .ref 3] (sm_hp m) (some (.int r), sm_hp m) := by
  refine sm_Rt.ofW (L := [.ref 51, .ref 3, .retAddr 0]) (by decide) (Nat.le_of_ble_eq_true rfl) rfl ?_
  unfold fX0_firstWithoutWays at hf
  refine w_blk bX0_firstWithoutWays_0 [.ref 51, .ref 3, .int (0 : Int32)] [] (sm_hp m) [] rfl (sm_on) ?_
  exact tX0_firstWithoutWays_2 sm_fu (0 : Int32) m r hf
set_option maxRecDepth 10000 in
theorem tX0_firstAgainst_2 {l : Launch} {al : Bool} : ∀ (n : Nat) (v2 : Int32) (v3 : Int32) (m : sm_S) (r : Int32), fX0_firstAgainst_2 n v2 v3 m = some r → sm_W l mX0_firstAgainst 6 al (some (.int r), sm_hp m) 2 [.ref 51, .ref 3, .int v2, .int v3] [] (sm_hp m) := by
  intro n
  induction n with
  | zero =>
    intro v2 v3 m r hf
    unfold fX0_firstAgainst_2 at hf
    cases hf
  | succ n ih =>
    intro v2 v3 m r hf
    unfold fX0_firstAgainst_2 at hf
    refine w_blk bX0_firstAgainst_2 [.ref 51, .ref 3, .int v2, .int v3] [.int v2, .int v3] (sm_hp m) [] rfl (sm_on) ?_
    refine w_icmp_ge (tgt := 30) dX0_firstAgainst_4 rfl (fun hc => ?_) (fun hc => ?_)
    · replace hf := sm_ift hc hf
      refine w_blk bX0_firstAgainst_30 [.ref 51, .ref 3, .int v2, .int v3] [.int (-1 : Int32)] (sm_hp m) [] rfl (sm_on) ?_
      obtain rfl := Option.some.inj hf
      exact w_reti dX0_firstAgainst_31 rfl rfl
    · replace hf := sm_iff hc hf
      refine w_blk bX0_firstAgainst_7 [.ref 51, .ref 3, .int v2, .int v3] [.int (((1 : Int32) <<< (v3 &&& 31)) ||| ((1 : Int32) <<< (v2 &&& 31))), .ref 3, .ref 51] (sm_hp m) [] rfl (sm_on) ?_
      replace hf := sm_bd hf
      obtain ⟨r2, q1, hf⟩ := hf
      refine w_callV [.ref 3, .int (((1 : Int32) <<< (v3 &&& 31)) ||| ((1 : Int32) <<< (v2 &&& 31)))] [] (tX0_hasWay (((1 : Int32) <<< (v3 &&& 31)) ||| ((1 : Int32) <<< (v2 &&& 31))) m r2 q1) (cvX0_78 rfl) dX0_firstAgainst_16 rfl rfl (by decide) (by decide) rfl (Nat.le_of_ble_eq_true rfl) ?_
      show sm_W _ _ _ _ _ 19 [.ref 51, .ref 3, .int v2, .int v3] [.int r2] (sm_hp m)
      refine w_if_ne (tgt := 24) dX0_firstAgainst_19 rfl (fun hc => ?_) (fun hc => ?_)
      · replace hf := sm_iff hc hf
        refine w_blk bX0_firstAgainst_24 [.ref 51, .ref 3, .int v2, .int (v3 + (1 : Int32))] [] (sm_hp m) [] rfl (sm_on) ?_
        refine w_goto (tgt := 2) dX0_firstAgainst_27 rfl ?_
        exact ih v2 (v3 + (1 : Int32)) m r hf
      · replace hf := sm_ift hc hf
        refine w_blk bX0_firstAgainst_22 [.ref 51, .ref 3, .int v2, .int v3] [.int v3] (sm_hp m) [] rfl (sm_on) ?_
        obtain rfl := Option.some.inj hf
        exact w_reti dX0_firstAgainst_23 rfl rfl
set_option maxRecDepth 10000 in
theorem tX0_firstAgainst {l : Launch} {al : Bool} (x1 : Int32) (m : sm_S) (r : Int32) (hf : fX0_firstAgainst x1 m = some r) : sm_Rt l mX0_firstAgainst 6 0 0 al al [.ref 51, .ref 3, .int x1] (sm_hp m) (some (.int r), sm_hp m) := by
  refine sm_Rt.ofW (L := [.ref 51, .ref 3, .int x1, .retAddr 0]) (by decide) (Nat.le_of_ble_eq_true rfl) rfl ?_
  unfold fX0_firstAgainst at hf
  refine w_blk bX0_firstAgainst_0 [.ref 51, .ref 3, .int x1, .int (0 : Int32)] [] (sm_hp m) [] rfl (sm_on) ?_
  exact tX0_firstAgainst_2 sm_fu x1 (0 : Int32) m r hf
set_option maxRecDepth 10000 in
theorem tX11_quarrel {l : Launch} {al : Bool} (m : sm_S) (r : Int32 × sm_S) (hf : fX11_quarrel m = some r) : sm_Rt l mX11_quarrel 7 0 0 al al [.ref 0] (sm_hp m) (some (.int r.1), sm_hp r.2) := by
  refine sm_Rt.ofW (L := [.ref 0, .retAddr 0]) (by decide) (Nat.le_of_ble_eq_true rfl) rfl ?_
  unfold fX11_quarrel at hf
  refine w_blk bX11_quarrel_0 [.ref 0, .retAddr 0] [.ref 3, .ref 51] (sm_hp m) [] rfl (sm_on) ?_
  replace hf := sm_bd hf
  obtain ⟨r2, q1, hf⟩ := hf
  refine w_callV [.ref 3] [] (tX0_firstWithoutWays m r2 q1) (cvX11_368 rfl) dX11_quarrel_8 rfl rfl (by decide) (by decide) rfl (Nat.le_of_ble_eq_true rfl) ?_
  show sm_W _ _ _ _ _ 11 [.ref 0, .retAddr 0] [.int r2] (sm_hp m)
  refine w_blk bX11_quarrel_11 [.ref 0, .int r2] [.int r2] (sm_hp m) [] rfl (sm_on) ?_
  refine w_if_ge (tgt := 19) dX11_quarrel_13 rfl (fun hc => ?_) (fun hc => ?_)
  · replace hf := sm_ift hc hf
    refine w_blk bX11_quarrel_19 [.ref 0, .int r2] [.int r2, .ref 3, .ref 51, .ref 14] (sm_hp m) [] rfl (sm_on) ?_
    replace hf := sm_bd hf
    obtain ⟨r4, q3, hf⟩ := hf
    refine w_callV [.ref 3, .int r2] [.ref 14] (tX0_firstAgainst r2 m r4 q3) (cvX11_371 rfl) dX11_quarrel_32 rfl rfl (by decide) (by decide) rfl (Nat.le_of_ble_eq_true rfl) ?_
    show sm_W _ _ _ _ _ 35 [.ref 0, .int r2] [.int r4, .ref 14] (sm_hp m)
    replace hf := sm_bd hf
    obtain ⟨m6, q5, hf⟩ := hf
    refine w_callV [.int r4] [] (tX5_tell r4 m m6 q5) (cvX11_224 rfl) dX11_quarrel_35 rfl rfl (by decide) (by decide) rfl (Nat.le_of_ble_eq_true rfl) ?_
    show sm_W _ _ _ _ _ 38 [.ref 0, .int r2] [] (sm_hp m6)
    refine w_blk bX11_quarrel_38 [.ref 0, .int r2] [.int r2] (sm_hp m6) [] rfl (sm_on) ?_
    obtain rfl := Option.some.inj hf
    exact w_reti dX11_quarrel_39 rfl rfl
  · replace hf := sm_iff hc hf
    refine w_blk bX11_quarrel_16 [.ref 0, .int r2] [.int (-2 : Int32)] (sm_hp m) [] rfl (sm_on) ?_
    obtain rfl := Option.some.inj hf
    exact w_reti dX11_quarrel_18 rfl rfl
set_option maxRecDepth 10000 in
theorem tX6_copyFrom_i1_18 {l : Launch} {al : Bool} : ∀ (n : Nat) (v2 : Int32) (m : sm_S) (r : sm_S), fX6_copyFrom_i1_18 n v2 m = some r → sm_W l mX6_copyFrom 1 al (none, sm_hp r) 18 [.ref 66, .ref 16, .int v2] [] (sm_hp m) := by
  intro n
  induction n with
  | zero =>
    intro v2 m r hf
    unfold fX6_copyFrom_i1_18 at hf
    cases hf
  | succ n ih =>
    intro v2 m r hf
    unfold fX6_copyFrom_i1_18 at hf
    refine w_blk bX6_copyFrom_18 [.ref 66, .ref 16, .int v2] [.int (14 : Int32), .int v2] (sm_hp m) [] rfl (sm_on) ?_
    refine w_icmp_ge (tgt := 42) dX6_copyFrom_21 rfl (fun hc => ?_) (fun hc => ?_)
    · replace hf := sm_ift hc hf
      obtain rfl := Option.some.inj hf
      exact w_retv dX6_copyFrom_42 rfl
    · replace hf := sm_iff hc hf
      replace hf := sm_ck hf
      obtain ⟨q1, hf⟩ := hf
      replace hf := sm_ck hf
      obtain ⟨q2, hf⟩ := hf
      refine w_blk bX6_copyFrom_24 [.ref 66, .ref 16, .int (v2 + (1 : Int32))] [] (sm_hp (sm_w1 m 67 (v2).toNatClampNeg (m.1 17 (v2).toNatClampNeg))) [(v2, 14), (v2, 14)] rfl (sm_oc q1 (sm_oc q2 (sm_on))) ?_
      refine w_goto (tgt := 18) dX6_copyFrom_39 rfl ?_
      exact ih (v2 + (1 : Int32)) (sm_w1 m 67 (v2).toNatClampNeg (m.1 17 (v2).toNatClampNeg)) r hf
set_option maxRecDepth 10000 in
theorem tX6_copyFrom_i1 {l : Launch} {al : Bool} (m : sm_S) (r : sm_S) (hf : fX6_copyFrom_i1 m = some r) : sm_Rt l mX6_copyFrom 1 0 0 al al [.ref 66, .ref 16] (sm_hp m) (none, sm_hp r) := by
  refine sm_Rt.ofW (L := [.ref 66, .ref 16, .retAddr 0]) (by decide) (Nat.le_of_ble_eq_true rfl) rfl ?_
  unfold fX6_copyFrom_i1 at hf
  refine w_blk bX6_copyFrom_0 [.ref 66, .ref 16, .int (0 : Int32)] [] (sm_hp (sm_w1 (sm_w1 m 66 0 (m.1 16 0)) 66 1 (m.1 16 1))) [] rfl (sm_on) ?_
  exact tX6_copyFrom_i1_18 sm_fu (0 : Int32) (sm_w1 (sm_w1 m 66 0 (m.1 16 0)) 66 1 (m.1 16 1)) r hf
set_option maxRecDepth 10000 in
theorem tX6_copyFrom_i2_18 {l : Launch} {al : Bool} : ∀ (n : Nat) (v2 : Int32) (m : sm_S) (r : sm_S), fX6_copyFrom_i2_18 n v2 m = some r → sm_W l mX6_copyFrom 1 al (none, sm_hp r) 18 [.ref 68, .ref 16, .int v2] [] (sm_hp m) := by
  intro n
  induction n with
  | zero =>
    intro v2 m r hf
    unfold fX6_copyFrom_i2_18 at hf
    cases hf
  | succ n ih =>
    intro v2 m r hf
    unfold fX6_copyFrom_i2_18 at hf
    refine w_blk bX6_copyFrom_18 [.ref 68, .ref 16, .int v2] [.int (14 : Int32), .int v2] (sm_hp m) [] rfl (sm_on) ?_
    refine w_icmp_ge (tgt := 42) dX6_copyFrom_21 rfl (fun hc => ?_) (fun hc => ?_)
    · replace hf := sm_ift hc hf
      obtain rfl := Option.some.inj hf
      exact w_retv dX6_copyFrom_42 rfl
    · replace hf := sm_iff hc hf
      replace hf := sm_ck hf
      obtain ⟨q1, hf⟩ := hf
      replace hf := sm_ck hf
      obtain ⟨q2, hf⟩ := hf
      refine w_blk bX6_copyFrom_24 [.ref 68, .ref 16, .int (v2 + (1 : Int32))] [] (sm_hp (sm_w1 m 69 (v2).toNatClampNeg (m.1 17 (v2).toNatClampNeg))) [(v2, 14), (v2, 14)] rfl (sm_oc q1 (sm_oc q2 (sm_on))) ?_
      refine w_goto (tgt := 18) dX6_copyFrom_39 rfl ?_
      exact ih (v2 + (1 : Int32)) (sm_w1 m 69 (v2).toNatClampNeg (m.1 17 (v2).toNatClampNeg)) r hf
set_option maxRecDepth 10000 in
theorem tX6_copyFrom_i2 {l : Launch} {al : Bool} (m : sm_S) (r : sm_S) (hf : fX6_copyFrom_i2 m = some r) : sm_Rt l mX6_copyFrom 1 0 0 al al [.ref 68, .ref 16] (sm_hp m) (none, sm_hp r) := by
  refine sm_Rt.ofW (L := [.ref 68, .ref 16, .retAddr 0]) (by decide) (Nat.le_of_ble_eq_true rfl) rfl ?_
  unfold fX6_copyFrom_i2 at hf
  refine w_blk bX6_copyFrom_0 [.ref 68, .ref 16, .int (0 : Int32)] [] (sm_hp (sm_w1 (sm_w1 m 68 0 (m.1 16 0)) 68 1 (m.1 16 1))) [] rfl (sm_on) ?_
  exact tX6_copyFrom_i2_18 sm_fu (0 : Int32) (sm_w1 (sm_w1 m 68 0 (m.1 16 0)) 68 1 (m.1 16 1)) r hf
set_option maxRecDepth 10000 in
theorem tX6_copyFrom_i3_18 {l : Launch} {al : Bool} : ∀ (n : Nat) (v2 : Int32) (m : sm_S) (r : sm_S), fX6_copyFrom_i3_18 n v2 m = some r → sm_W l mX6_copyFrom 1 al (none, sm_hp r) 18 [.ref 70, .ref 16, .int v2] [] (sm_hp m) := by
  intro n
  induction n with
  | zero =>
    intro v2 m r hf
    unfold fX6_copyFrom_i3_18 at hf
    cases hf
  | succ n ih =>
    intro v2 m r hf
    unfold fX6_copyFrom_i3_18 at hf
    refine w_blk bX6_copyFrom_18 [.ref 70, .ref 16, .int v2] [.int (14 : Int32), .int v2] (sm_hp m) [] rfl (sm_on) ?_
    refine w_icmp_ge (tgt := 42) dX6_copyFrom_21 rfl (fun hc => ?_) (fun hc => ?_)
    · replace hf := sm_ift hc hf
      obtain rfl := Option.some.inj hf
      exact w_retv dX6_copyFrom_42 rfl
    · replace hf := sm_iff hc hf
      replace hf := sm_ck hf
      obtain ⟨q1, hf⟩ := hf
      replace hf := sm_ck hf
      obtain ⟨q2, hf⟩ := hf
      refine w_blk bX6_copyFrom_24 [.ref 70, .ref 16, .int (v2 + (1 : Int32))] [] (sm_hp (sm_w1 m 71 (v2).toNatClampNeg (m.1 17 (v2).toNatClampNeg))) [(v2, 14), (v2, 14)] rfl (sm_oc q1 (sm_oc q2 (sm_on))) ?_
      refine w_goto (tgt := 18) dX6_copyFrom_39 rfl ?_
      exact ih (v2 + (1 : Int32)) (sm_w1 m 71 (v2).toNatClampNeg (m.1 17 (v2).toNatClampNeg)) r hf
set_option maxRecDepth 10000 in
theorem tX6_copyFrom_i3 {l : Launch} {al : Bool} (m : sm_S) (r : sm_S) (hf : fX6_copyFrom_i3 m = some r) : sm_Rt l mX6_copyFrom 1 0 0 al al [.ref 70, .ref 16] (sm_hp m) (none, sm_hp r) := by
  refine sm_Rt.ofW (L := [.ref 70, .ref 16, .retAddr 0]) (by decide) (Nat.le_of_ble_eq_true rfl) rfl ?_
  unfold fX6_copyFrom_i3 at hf
  refine w_blk bX6_copyFrom_0 [.ref 70, .ref 16, .int (0 : Int32)] [] (sm_hp (sm_w1 (sm_w1 m 70 0 (m.1 16 0)) 70 1 (m.1 16 1))) [] rfl (sm_on) ?_
  exact tX6_copyFrom_i3_18 sm_fu (0 : Int32) (sm_w1 (sm_w1 m 70 0 (m.1 16 0)) 70 1 (m.1 16 1)) r hf
set_option maxRecDepth 10000 in
theorem tX11_keep {l : Launch} {al : Bool} (x1 : Int32) (m : sm_S) (r : Int32 × sm_S) (hf : fX11_keep x1 m = some r) : sm_Rt l mX11_keep 2 0 0 al al [.ref 0, .int x1] (sm_hp m) (some (.int r.1), sm_hp r.2) := by
  refine sm_Rt.ofW (L := [.ref 0, .int x1]) (by decide) (Nat.le_of_ble_eq_true rfl) rfl ?_
  unfold fX11_keep at hf
  refine w_blk bX11_keep_0 [.ref 0, .int x1] [.int x1] (sm_hp m) [] rfl (sm_on) ?_
  refine w_if_lt (tgt := 9) dX11_keep_1 rfl (fun hc => ?_) (fun hc => ?_)
  · replace hf := sm_ift hc hf
    refine w_blk bX11_keep_9 [.ref 0, .int x1] [.int (0 : Int32)] (sm_hp m) [] rfl (sm_on) ?_
    obtain rfl := Option.some.inj hf
    exact w_reti dX11_keep_10 rfl sm_nb0
  · replace hf := sm_iff hc hf
    refine w_blk bX11_keep_4 [.ref 0, .int x1] [.int (3 : Int32), .int x1] (sm_hp m) [] rfl (sm_on) ?_
    refine w_icmp_lt (tgt := 11) dX11_keep_6 rfl (fun hc => ?_) (fun hc => ?_)
    · replace hf := sm_ift hc hf
      by_cases hc3 : x1 = (0 : Int32)
      · replace hf := sm_ift hc3 hf
        subst hc3
        refine w_blk bX11_keep_11 [.ref 0, .int (0 : Int32)] [.ref 16, .ref 66] (sm_hp m) [((0 : Int32), 3)] rfl (sm_oc (by decide) (sm_on)) ?_
        replace hf := sm_bd hf
        obtain ⟨m2, q1, hf⟩ := hf
        refine w_callV [.ref 16] [] (tX6_copyFrom_i1 m m2 q1) (cvX11_238 rfl) dX11_keep_21 rfl rfl (by decide) (by decide) rfl (Nat.le_of_ble_eq_true rfl) ?_
        show sm_W _ _ _ _ _ 24 [.ref 0, .int (0 : Int32)] [] (sm_hp m2)
        refine w_blk bX11_keep_24 [.ref 0, .int (0 : Int32)] [.int (1 : Int32)] (sm_hp (sm_w1 m2 57 0 (vp_nar .boolean (1 : Int32)))) [((0 : Int32), 3)] rfl (sm_oc (by decide) (sm_on)) ?_
        obtain rfl := Option.some.inj hf
        exact w_reti dX11_keep_32 rfl sm_nb1
      · replace hf := sm_iff hc3 hf
        by_cases hc6 : x1 = (1 : Int32)
        · replace hf := sm_ift hc6 hf
          subst hc6
          refine w_blk bX11_keep_11 [.ref 0, .int (1 : Int32)] [.ref 16, .ref 68] (sm_hp m) [((1 : Int32), 3)] rfl (sm_oc (by decide) (sm_on)) ?_
          replace hf := sm_bd hf
          obtain ⟨m5, q4, hf⟩ := hf
          refine w_callV [.ref 16] [] (tX6_copyFrom_i2 m m5 q4) (cvX11_238 rfl) dX11_keep_21 rfl rfl (by decide) (by decide) rfl (Nat.le_of_ble_eq_true rfl) ?_
          show sm_W _ _ _ _ _ 24 [.ref 0, .int (1 : Int32)] [] (sm_hp m5)
          refine w_blk bX11_keep_24 [.ref 0, .int (1 : Int32)] [.int (1 : Int32)] (sm_hp (sm_w1 m5 57 1 (vp_nar .boolean (1 : Int32)))) [((1 : Int32), 3)] rfl (sm_oc (by decide) (sm_on)) ?_
          obtain rfl := Option.some.inj hf
          exact w_reti dX11_keep_32 rfl sm_nb1
        · replace hf := sm_iff hc6 hf
          by_cases hc9 : x1 = (2 : Int32)
          · replace hf := sm_ift hc9 hf
            subst hc9
            refine w_blk bX11_keep_11 [.ref 0, .int (2 : Int32)] [.ref 16, .ref 70] (sm_hp m) [((2 : Int32), 3)] rfl (sm_oc (by decide) (sm_on)) ?_
            replace hf := sm_bd hf
            obtain ⟨m8, q7, hf⟩ := hf
            refine w_callV [.ref 16] [] (tX6_copyFrom_i3 m m8 q7) (cvX11_238 rfl) dX11_keep_21 rfl rfl (by decide) (by decide) rfl (Nat.le_of_ble_eq_true rfl) ?_
            show sm_W _ _ _ _ _ 24 [.ref 0, .int (2 : Int32)] [] (sm_hp m8)
            refine w_blk bX11_keep_24 [.ref 0, .int (2 : Int32)] [.int (1 : Int32)] (sm_hp (sm_w1 m8 57 2 (vp_nar .boolean (1 : Int32)))) [((2 : Int32), 3)] rfl (sm_oc (by decide) (sm_on)) ?_
            obtain rfl := Option.some.inj hf
            exact w_reti dX11_keep_32 rfl sm_nb1
          · replace hf := sm_iff hc9 hf
            cases hf
    · replace hf := sm_iff hc hf
      refine w_blk bX11_keep_9 [.ref 0, .int x1] [.int (0 : Int32)] (sm_hp m) [] rfl (sm_on) ?_
      obtain rfl := Option.some.inj hf
      exact w_reti dX11_keep_10 rfl sm_nb0
set_option maxRecDepth 10000 in
theorem tX6_copyFrom_i4_18 {l : Launch} {al : Bool} : ∀ (n : Nat) (v2 : Int32) (m : sm_S) (r : sm_S), fX6_copyFrom_i4_18 n v2 m = some r → sm_W l mX6_copyFrom 1 al (none, sm_hp r) 18 [.ref 16, .ref 66, .int v2] [] (sm_hp m) := by
  intro n
  induction n with
  | zero =>
    intro v2 m r hf
    unfold fX6_copyFrom_i4_18 at hf
    cases hf
  | succ n ih =>
    intro v2 m r hf
    unfold fX6_copyFrom_i4_18 at hf
    refine w_blk bX6_copyFrom_18 [.ref 16, .ref 66, .int v2] [.int (14 : Int32), .int v2] (sm_hp m) [] rfl (sm_on) ?_
    refine w_icmp_ge (tgt := 42) dX6_copyFrom_21 rfl (fun hc => ?_) (fun hc => ?_)
    · replace hf := sm_ift hc hf
      obtain rfl := Option.some.inj hf
      exact w_retv dX6_copyFrom_42 rfl
    · replace hf := sm_iff hc hf
      replace hf := sm_ck hf
      obtain ⟨q1, hf⟩ := hf
      replace hf := sm_ck hf
      obtain ⟨q2, hf⟩ := hf
      refine w_blk bX6_copyFrom_24 [.ref 16, .ref 66, .int (v2 + (1 : Int32))] [] (sm_hp (sm_w1 m 17 (v2).toNatClampNeg (m.1 67 (v2).toNatClampNeg))) [(v2, 14), (v2, 14)] rfl (sm_oc q1 (sm_oc q2 (sm_on))) ?_
      refine w_goto (tgt := 18) dX6_copyFrom_39 rfl ?_
      exact ih (v2 + (1 : Int32)) (sm_w1 m 17 (v2).toNatClampNeg (m.1 67 (v2).toNatClampNeg)) r hf
set_option maxRecDepth 10000 in
theorem tX6_copyFrom_i4 {l : Launch} {al : Bool} (m : sm_S) (r : sm_S) (hf : fX6_copyFrom_i4 m = some r) : sm_Rt l mX6_copyFrom 1 0 0 al al [.ref 16, .ref 66] (sm_hp m) (none, sm_hp r) := by
  refine sm_Rt.ofW (L := [.ref 16, .ref 66, .retAddr 0]) (by decide) (Nat.le_of_ble_eq_true rfl) rfl ?_
  unfold fX6_copyFrom_i4 at hf
  refine w_blk bX6_copyFrom_0 [.ref 16, .ref 66, .int (0 : Int32)] [] (sm_hp (sm_w1 (sm_w1 m 16 0 (m.1 66 0)) 16 1 (m.1 66 1))) [] rfl (sm_on) ?_
  exact tX6_copyFrom_i4_18 sm_fu (0 : Int32) (sm_w1 (sm_w1 m 16 0 (m.1 66 0)) 16 1 (m.1 66 1)) r hf
set_option maxRecDepth 10000 in
theorem tX6_copyFrom_i5_18 {l : Launch} {al : Bool} : ∀ (n : Nat) (v2 : Int32) (m : sm_S) (r : sm_S), fX6_copyFrom_i5_18 n v2 m = some r → sm_W l mX6_copyFrom 1 al (none, sm_hp r) 18 [.ref 16, .ref 68, .int v2] [] (sm_hp m) := by
  intro n
  induction n with
  | zero =>
    intro v2 m r hf
    unfold fX6_copyFrom_i5_18 at hf
    cases hf
  | succ n ih =>
    intro v2 m r hf
    unfold fX6_copyFrom_i5_18 at hf
    refine w_blk bX6_copyFrom_18 [.ref 16, .ref 68, .int v2] [.int (14 : Int32), .int v2] (sm_hp m) [] rfl (sm_on) ?_
    refine w_icmp_ge (tgt := 42) dX6_copyFrom_21 rfl (fun hc => ?_) (fun hc => ?_)
    · replace hf := sm_ift hc hf
      obtain rfl := Option.some.inj hf
      exact w_retv dX6_copyFrom_42 rfl
    · replace hf := sm_iff hc hf
      replace hf := sm_ck hf
      obtain ⟨q1, hf⟩ := hf
      replace hf := sm_ck hf
      obtain ⟨q2, hf⟩ := hf
      refine w_blk bX6_copyFrom_24 [.ref 16, .ref 68, .int (v2 + (1 : Int32))] [] (sm_hp (sm_w1 m 17 (v2).toNatClampNeg (m.1 69 (v2).toNatClampNeg))) [(v2, 14), (v2, 14)] rfl (sm_oc q1 (sm_oc q2 (sm_on))) ?_
      refine w_goto (tgt := 18) dX6_copyFrom_39 rfl ?_
      exact ih (v2 + (1 : Int32)) (sm_w1 m 17 (v2).toNatClampNeg (m.1 69 (v2).toNatClampNeg)) r hf
set_option maxRecDepth 10000 in
theorem tX6_copyFrom_i5 {l : Launch} {al : Bool} (m : sm_S) (r : sm_S) (hf : fX6_copyFrom_i5 m = some r) : sm_Rt l mX6_copyFrom 1 0 0 al al [.ref 16, .ref 68] (sm_hp m) (none, sm_hp r) := by
  refine sm_Rt.ofW (L := [.ref 16, .ref 68, .retAddr 0]) (by decide) (Nat.le_of_ble_eq_true rfl) rfl ?_
  unfold fX6_copyFrom_i5 at hf
  refine w_blk bX6_copyFrom_0 [.ref 16, .ref 68, .int (0 : Int32)] [] (sm_hp (sm_w1 (sm_w1 m 16 0 (m.1 68 0)) 16 1 (m.1 68 1))) [] rfl (sm_on) ?_
  exact tX6_copyFrom_i5_18 sm_fu (0 : Int32) (sm_w1 (sm_w1 m 16 0 (m.1 68 0)) 16 1 (m.1 68 1)) r hf
set_option maxRecDepth 10000 in
theorem tX6_copyFrom_i6_18 {l : Launch} {al : Bool} : ∀ (n : Nat) (v2 : Int32) (m : sm_S) (r : sm_S), fX6_copyFrom_i6_18 n v2 m = some r → sm_W l mX6_copyFrom 1 al (none, sm_hp r) 18 [.ref 16, .ref 70, .int v2] [] (sm_hp m) := by
  intro n
  induction n with
  | zero =>
    intro v2 m r hf
    unfold fX6_copyFrom_i6_18 at hf
    cases hf
  | succ n ih =>
    intro v2 m r hf
    unfold fX6_copyFrom_i6_18 at hf
    refine w_blk bX6_copyFrom_18 [.ref 16, .ref 70, .int v2] [.int (14 : Int32), .int v2] (sm_hp m) [] rfl (sm_on) ?_
    refine w_icmp_ge (tgt := 42) dX6_copyFrom_21 rfl (fun hc => ?_) (fun hc => ?_)
    · replace hf := sm_ift hc hf
      obtain rfl := Option.some.inj hf
      exact w_retv dX6_copyFrom_42 rfl
    · replace hf := sm_iff hc hf
      replace hf := sm_ck hf
      obtain ⟨q1, hf⟩ := hf
      replace hf := sm_ck hf
      obtain ⟨q2, hf⟩ := hf
      refine w_blk bX6_copyFrom_24 [.ref 16, .ref 70, .int (v2 + (1 : Int32))] [] (sm_hp (sm_w1 m 17 (v2).toNatClampNeg (m.1 71 (v2).toNatClampNeg))) [(v2, 14), (v2, 14)] rfl (sm_oc q1 (sm_oc q2 (sm_on))) ?_
      refine w_goto (tgt := 18) dX6_copyFrom_39 rfl ?_
      exact ih (v2 + (1 : Int32)) (sm_w1 m 17 (v2).toNatClampNeg (m.1 71 (v2).toNatClampNeg)) r hf
set_option maxRecDepth 10000 in
theorem tX6_copyFrom_i6 {l : Launch} {al : Bool} (m : sm_S) (r : sm_S) (hf : fX6_copyFrom_i6 m = some r) : sm_Rt l mX6_copyFrom 1 0 0 al al [.ref 16, .ref 70] (sm_hp m) (none, sm_hp r) := by
  refine sm_Rt.ofW (L := [.ref 16, .ref 70, .retAddr 0]) (by decide) (Nat.le_of_ble_eq_true rfl) rfl ?_
  unfold fX6_copyFrom_i6 at hf
  refine w_blk bX6_copyFrom_0 [.ref 16, .ref 70, .int (0 : Int32)] [] (sm_hp (sm_w1 (sm_w1 m 16 0 (m.1 70 0)) 16 1 (m.1 70 1))) [] rfl (sm_on) ?_
  exact tX6_copyFrom_i6_18 sm_fu (0 : Int32) (sm_w1 (sm_w1 m 16 0 (m.1 70 0)) 16 1 (m.1 70 1)) r hf
set_option maxRecDepth 10000 in
theorem tX11_again {l : Launch} {al : Bool} (x1 : Int32) (m : sm_S) (r : Int32 × sm_S) (hf : fX11_again x1 m = some r) : sm_Rt l mX11_again 2 0 0 al al [.ref 0, .int x1] (sm_hp m) (some (.int r.1), sm_hp r.2) := by
  refine sm_Rt.ofW (L := [.ref 0, .int x1]) (by decide) (Nat.le_of_ble_eq_true rfl) rfl ?_
  unfold fX11_again at hf
  refine w_blk bX11_again_0 [.ref 0, .int x1] [.int x1] (sm_hp m) [] rfl (sm_on) ?_
  refine w_if_lt (tgt := 18) dX11_again_1 rfl (fun hc => ?_) (fun hc => ?_)
  · replace hf := sm_ift hc hf
    refine w_blk bX11_again_18 [.ref 0, .int x1] [.int (0 : Int32)] (sm_hp m) [] rfl (sm_on) ?_
    obtain rfl := Option.some.inj hf
    exact w_reti dX11_again_19 rfl sm_nb0
  · replace hf := sm_iff hc hf
    refine w_blk bX11_again_4 [.ref 0, .int x1] [.int (3 : Int32), .int x1] (sm_hp m) [] rfl (sm_on) ?_
    refine w_icmp_ge (tgt := 18) dX11_again_6 rfl (fun hc => ?_) (fun hc => ?_)
    · replace hf := sm_ift hc hf
      refine w_blk bX11_again_18 [.ref 0, .int x1] [.int (0 : Int32)] (sm_hp m) [] rfl (sm_on) ?_
      obtain rfl := Option.some.inj hf
      exact w_reti dX11_again_19 rfl sm_nb0
    · replace hf := sm_iff hc hf
      replace hf := sm_ck hf
      obtain ⟨q1, hf⟩ := hf
      refine w_blk bX11_again_9 [.ref 0, .int x1] [.int (m.1 57 (x1).toNatClampNeg)] (sm_hp m) [(x1, 3)] rfl (sm_oc q1 (sm_on)) ?_
      refine w_if_ne (tgt := 20) dX11_again_15 rfl (fun hc => ?_) (fun hc => ?_)
      · replace hf := sm_iff hc hf
        by_cases hc4 : x1 = (0 : Int32)
        · replace hf := sm_ift hc4 hf
          subst hc4
          refine w_blk bX11_again_20 [.ref 0, .int (0 : Int32)] [.ref 66, .ref 16] (sm_hp m) [((0 : Int32), 3)] rfl (sm_oc (by decide) (sm_on)) ?_
          replace hf := sm_bd hf
          obtain ⟨m3, q2, hf⟩ := hf
          refine w_callV [.ref 66] [] (tX6_copyFrom_i4 m m3 q2) (cvX11_238 rfl) dX11_again_30 rfl rfl (by decide) (by decide) rfl (Nat.le_of_ble_eq_true rfl) ?_
          show sm_W _ _ _ _ _ 33 [.ref 0, .int (0 : Int32)] [] (sm_hp m3)
          refine w_blk bX11_again_33 [.ref 0, .int (0 : Int32)] [.int (1 : Int32)] (sm_hp (sm_w1 m3 20 0 (0 : Int32))) [] rfl (sm_on) ?_
          obtain rfl := Option.some.inj hf
          exact w_reti dX11_again_42 rfl sm_nb1
        · replace hf := sm_iff hc4 hf
          by_cases hc7 : x1 = (1 : Int32)
          · replace hf := sm_ift hc7 hf
            subst hc7
            refine w_blk bX11_again_20 [.ref 0, .int (1 : Int32)] [.ref 68, .ref 16] (sm_hp m) [((1 : Int32), 3)] rfl (sm_oc (by decide) (sm_on)) ?_
            replace hf := sm_bd hf
            obtain ⟨m6, q5, hf⟩ := hf
            refine w_callV [.ref 68] [] (tX6_copyFrom_i5 m m6 q5) (cvX11_238 rfl) dX11_again_30 rfl rfl (by decide) (by decide) rfl (Nat.le_of_ble_eq_true rfl) ?_
            show sm_W _ _ _ _ _ 33 [.ref 0, .int (1 : Int32)] [] (sm_hp m6)
            refine w_blk bX11_again_33 [.ref 0, .int (1 : Int32)] [.int (1 : Int32)] (sm_hp (sm_w1 m6 20 0 (0 : Int32))) [] rfl (sm_on) ?_
            obtain rfl := Option.some.inj hf
            exact w_reti dX11_again_42 rfl sm_nb1
          · replace hf := sm_iff hc7 hf
            by_cases hc10 : x1 = (2 : Int32)
            · replace hf := sm_ift hc10 hf
              subst hc10
              refine w_blk bX11_again_20 [.ref 0, .int (2 : Int32)] [.ref 70, .ref 16] (sm_hp m) [((2 : Int32), 3)] rfl (sm_oc (by decide) (sm_on)) ?_
              replace hf := sm_bd hf
              obtain ⟨m9, q8, hf⟩ := hf
              refine w_callV [.ref 70] [] (tX6_copyFrom_i6 m m9 q8) (cvX11_238 rfl) dX11_again_30 rfl rfl (by decide) (by decide) rfl (Nat.le_of_ble_eq_true rfl) ?_
              show sm_W _ _ _ _ _ 33 [.ref 0, .int (2 : Int32)] [] (sm_hp m9)
              refine w_blk bX11_again_33 [.ref 0, .int (2 : Int32)] [.int (1 : Int32)] (sm_hp (sm_w1 m9 20 0 (0 : Int32))) [] rfl (sm_on) ?_
              obtain rfl := Option.some.inj hf
              exact w_reti dX11_again_42 rfl sm_nb1
            · replace hf := sm_iff hc10 hf
              cases hf
      · replace hf := sm_ift hc hf
        refine w_blk bX11_again_18 [.ref 0, .int x1] [.int (0 : Int32)] (sm_hp m) [] rfl (sm_on) ?_
        obtain rfl := Option.some.inj hf
        exact w_reti dX11_again_19 rfl sm_nb0
