set_option maxRecDepth 10000 in
theorem tX12_meetsBy {l : Launch} {al : Bool} (x1 : Int32) (m : sm_S) (r : Int32 × sm_S) (hf : fX12_meetsBy x1 m = some r) : sm_Rt l mX12_meetsBy 3 0 0 al al [.ref 72, .int x1] (sm_hp m) (some (.int r.1), sm_hp r.2) := by
  refine sm_Rt.ofW (L := [.ref 72, .int x1, .retAddr 0, .retAddr 0, .retAddr 0]) (by decide) (Nat.le_of_ble_eq_true rfl) rfl ?_
  unfold fX12_meetsBy at hf
  refine w_blk bX12_meetsBy_0 [.ref 72, .int x1, .retAddr 0, .retAddr 0, .retAddr 0] [.int (0 : Int32), .int (0 : Int32), .int (0 : Int32), .ref 72] (sm_hp m) [] rfl (sm_on) ?_
  replace hf := sm_bd hf
  obtain ⟨r2, q1, hf⟩ := hf
  refine w_callV [.int (0 : Int32), .int (0 : Int32), .int (0 : Int32)] [] (tX12_cornerOf (0 : Int32) (0 : Int32) (0 : Int32) m r2 q1) (cvX12_251 rfl) dX12_meetsBy_4 rfl rfl (by decide) (by decide) rfl (Nat.le_of_ble_eq_true rfl) ?_
  show sm_W _ _ _ _ _ 7 [.ref 72, .int x1, .retAddr 0, .retAddr 0, .retAddr 0] [.int r2.1] (sm_hp r2.2)
  refine w_blk bX12_meetsBy_7 [.ref 72, .int x1, .int (r2.2.1 72 39), .retAddr 0, .retAddr 0] [.int (0 : Int32), .int x1, .int (1 : Int32), .ref 72] (sm_hp r2.2) [] rfl (sm_on) ?_
  replace hf := sm_bd hf
  obtain ⟨r4, q3, hf⟩ := hf
  refine w_callV [.int (1 : Int32), .int x1, .int (0 : Int32)] [] (tX12_cornerOf (1 : Int32) x1 (0 : Int32) r2.2 r4 q3) (cvX12_251 rfl) dX12_meetsBy_17 rfl rfl (by decide) (by decide) rfl (Nat.le_of_ble_eq_true rfl) ?_
  show sm_W _ _ _ _ _ 20 [.ref 72, .int x1, .int (r2.2.1 72 39), .retAddr 0, .retAddr 0] [.int r4.1] (sm_hp r4.2)
  refine w_blk bX12_meetsBy_20 [.ref 72, .int x1, .int (if (r2.2.1 72 39) < (r4.2.1 72 39) then (r4.2.1 72 39) else (r2.2.1 72 39)), .int (0 : Int32), .retAddr 0] [] (sm_hp r4.2) [] rfl (sm_on) ?_
  exact tX12_meetsBy_32 sm_fu x1 (if (r2.2.1 72 39) < (r4.2.1 72 39) then (r4.2.1 72 39) else (r2.2.1 72 39)) (0 : Int32) r4.2 r hf
set_option maxRecDepth 10000 in
theorem tX12_meets {l : Launch} {al : Bool} (x1 : Int32) (m : sm_S) (r : Int32 × sm_S) (hf : fX12_meets x1 m = some r) : sm_Rt l mX12_meets 4 0 0 al al [.ref 72, .int x1] (sm_hp m) (some (.int r.1), sm_hp r.2) := by
  refine sm_Rt.ofW (L := [.ref 72, .int x1, .retAddr 0]) (by decide) (Nat.le_of_ble_eq_true rfl) rfl ?_
  unfold fX12_meets at hf
  refine w_blk bX12_meets_0 [.ref 72, .int x1, .retAddr 0] [.long (99 : Int64), .long (0 : Int64), .long (x1).toInt64] (sm_hp (sm_w1 m 72 0 (0 : Int32))) [] rfl (sm_on) ?_
  replace hf := sm_bd hf
  obtain ⟨r2, q1, hf⟩ := hf
  refine w_callS [.long (x1).toInt64, .long (0 : Int64), .long (99 : Int64)] [] (tX12_in (x1).toInt64 (0 : Int64) (99 : Int64) (sm_w1 m 72 0 (0 : Int32)) r2 q1) (csX12_17 rfl) dX12_meets_11 rfl rfl (by decide) (by decide) (Nat.le_of_ble_eq_true rfl) ?_
  show sm_W _ _ _ _ _ 14 [.ref 72, .int x1, .retAddr 0] [.int r2] (sm_hp (sm_w1 m 72 0 (0 : Int32)))
  refine w_if_ne (tgt := 19) dX12_meets_14 rfl (fun hc => ?_) (fun hc => ?_)
  · replace hf := sm_iff hc hf
    refine w_blk bX12_meets_19 [.ref 72, .int x1, .retAddr 0] [.int (m.1 89 0)] (sm_hp (sm_w1 m 72 0 (0 : Int32))) [((0 : Int32), 2)] rfl (sm_oc (by decide) (sm_on)) ?_
    refine w_if_lt (tgt := 37) dX12_meets_25 rfl (fun hc => ?_) (fun hc => ?_)
    · replace hf := sm_ift hc hf
      refine w_blk bX12_meets_37 [.ref 72, .int x1, .retAddr 0] [.int (-3 : Int32)] (sm_hp (sm_w1 m 72 0 (0 : Int32))) [] rfl (sm_on) ?_
      obtain rfl := Option.some.inj hf
      exact w_reti dX12_meets_39 rfl rfl
    · replace hf := sm_iff hc hf
      refine w_blk bX12_meets_28 [.ref 72, .int x1, .retAddr 0] [.int (m.1 89 1)] (sm_hp (sm_w1 m 72 0 (0 : Int32))) [((1 : Int32), 2)] rfl (sm_oc (by decide) (sm_on)) ?_
      refine w_if_ge (tgt := 40) dX12_meets_34 rfl (fun hc => ?_) (fun hc => ?_)
      · replace hf := sm_ift hc hf
        refine w_blk bX12_meets_40 [.ref 72, .int x1, .retAddr 0] [.int x1, .ref 72] (sm_hp (sm_w1 m 72 0 (0 : Int32))) [] rfl (sm_on) ?_
        replace hf := sm_bd hf
        obtain ⟨r4, q3, hf⟩ := hf
        refine w_callV [.int x1] [] (tX12_meetsBy x1 (sm_w1 m 72 0 (0 : Int32)) r4 q3) (cvX12_255 rfl) dX12_meets_42 rfl rfl (by decide) (by decide) rfl (Nat.le_of_ble_eq_true rfl) ?_
        show sm_W _ _ _ _ _ 45 [.ref 72, .int x1, .retAddr 0] [.int r4.1] (sm_hp r4.2)
        refine w_blk bX12_meets_45 [.ref 72, .int x1, .int r4.1] [.int r4.1] (sm_hp r4.2) [] rfl (sm_on) ?_
        refine w_if_lt (tgt := 66) dX12_meets_47 rfl (fun hc => ?_) (fun hc => ?_)
        · replace hf := sm_ift hc hf
          refine w_blk bX12_meets_66 [.ref 72, .int x1, .int r4.1] [.int r4.1] (sm_hp r4.2) [] rfl (sm_on) ?_
          obtain rfl := Option.some.inj hf
          exact w_reti dX12_meets_67 rfl rfl
        · replace hf := sm_iff hc hf
          refine w_blk bX12_meets_50 [.ref 72, .int x1, .int r4.1] [.int r4.1, .int (0 : Int32), .int (0 : Int32), .ref 72, .ref 72] (sm_hp (sm_w1 r4.2 72 1 (0 : Int32))) [] rfl (sm_on) ?_
          replace hf := sm_bd hf
          obtain ⟨r6, q5, hf⟩ := hf
          refine w_callV [.int (0 : Int32), .int (0 : Int32), .int r4.1] [.ref 72] (tX12_cornerOf (0 : Int32) (0 : Int32) r4.1 (sm_w1 r4.2 72 1 (0 : Int32)) r6 q5) (cvX12_251 rfl) dX12_meets_60 rfl rfl (by decide) (by decide) rfl (Nat.le_of_ble_eq_true rfl) ?_
          show sm_W _ _ _ _ _ 63 [.ref 72, .int x1, .int r4.1] [.int r6.1, .ref 72] (sm_hp r6.2)
          replace hf := sm_bd hf
          obtain ⟨m8, q7, hf⟩ := hf
          refine w_callV [.int r6.1] [] (tX12_enters r6.1 r6.2 m8 q7) (cvX12_229 rfl) dX12_meets_63 rfl rfl (by decide) (by decide) rfl (Nat.le_of_ble_eq_true rfl) ?_
          show sm_W _ _ _ _ _ 66 [.ref 72, .int x1, .int r4.1] [] (sm_hp m8)
          refine w_blk bX12_meets_66 [.ref 72, .int x1, .int r4.1] [.int r4.1] (sm_hp m8) [] rfl (sm_on) ?_
          obtain rfl := Option.some.inj hf
          exact w_reti dX12_meets_67 rfl rfl
      · replace hf := sm_iff hc hf
        refine w_blk bX12_meets_37 [.ref 72, .int x1, .retAddr 0] [.int (-3 : Int32)] (sm_hp (sm_w1 m 72 0 (0 : Int32))) [] rfl (sm_on) ?_
        obtain rfl := Option.some.inj hf
        exact w_reti dX12_meets_39 rfl rfl
  · replace hf := sm_ift hc hf
    refine w_blk bX12_meets_17 [.ref 72, .int x1, .retAddr 0] [.int (-1 : Int32)] (sm_hp (sm_w1 m 72 0 (0 : Int32))) [] rfl (sm_on) ?_
    obtain rfl := Option.some.inj hf
    exact w_reti dX12_meets_18 rfl rfl
set_option maxRecDepth 10000 in
theorem tX12_apart_28 {l : Launch} {al : Bool} : ∀ (n : Nat) (v1 : Int32) (m : sm_S) (r : Int32 × sm_S), fX12_apart_28 n v1 m = some r → sm_W l mX12_apart 4 al (some (.int r.1), sm_hp r.2) 28 [.ref 72, .int v1] [] (sm_hp m) := by
  intro n
  induction n with
  | zero =>
    intro v1 m r hf
    unfold fX12_apart_28 at hf
    cases hf
  | succ n ih =>
    intro v1 m r hf
    unfold fX12_apart_28 at hf
    refine w_blk bX12_apart_28 [.ref 72, .int v1] [.int (99 : Int32), .int v1] (sm_hp m) [] rfl (sm_on) ?_
    refine w_icmp_gt (tgt := 50) dX12_apart_31 rfl (fun hc => ?_) (fun hc => ?_)
    · replace hf := sm_ift hc hf
      refine w_blk bX12_apart_50 [.ref 72, .int v1] [.int (-2 : Int32)] (sm_hp m) [] rfl (sm_on) ?_
      obtain rfl := Option.some.inj hf
      exact w_reti dX12_apart_52 rfl rfl
    · replace hf := sm_iff hc hf
      refine w_blk bX12_apart_34 [.ref 72, .int v1] [.int v1, .ref 72] (sm_hp m) [] rfl (sm_on) ?_
      replace hf := sm_bd hf
      obtain ⟨r2, q1, hf⟩ := hf
      refine w_callV [.int v1] [] (tX12_meetsBy v1 m r2 q1) (cvX12_255 rfl) dX12_apart_36 rfl rfl (by decide) (by decide) rfl (Nat.le_of_ble_eq_true rfl) ?_
      show sm_W _ _ _ _ _ 39 [.ref 72, .int v1] [.int r2.1] (sm_hp r2.2)
      refine w_if_ge (tgt := 44) dX12_apart_39 rfl (fun hc => ?_) (fun hc => ?_)
      · replace hf := sm_ift hc hf
        refine w_blk bX12_apart_44 [.ref 72, .int (v1 + (1 : Int32))] [] (sm_hp r2.2) [] rfl (sm_on) ?_
        refine w_goto (tgt := 28) dX12_apart_47 rfl ?_
        exact ih (v1 + (1 : Int32)) r2.2 r hf
      · replace hf := sm_iff hc hf
        refine w_blk bX12_apart_42 [.ref 72, .int v1] [.int v1] (sm_hp r2.2) [] rfl (sm_on) ?_
        obtain rfl := Option.some.inj hf
        exact w_reti dX12_apart_43 rfl rfl
set_option maxRecDepth 10000 in
theorem tX12_apart {l : Launch} {al : Bool} (m : sm_S) (r : Int32 × sm_S) (hf : fX12_apart m = some r) : sm_Rt l mX12_apart 4 0 0 al al [.ref 72] (sm_hp m) (some (.int r.1), sm_hp r.2) := by
  refine sm_Rt.ofW (L := [.ref 72, .retAddr 0]) (by decide) (Nat.le_of_ble_eq_true rfl) rfl ?_
  unfold fX12_apart at hf
  refine w_blk bX12_apart_0 [.ref 72, .retAddr 0] [.int (m.1 89 0)] (sm_hp (sm_w1 m 72 0 (0 : Int32))) [((0 : Int32), 2)] rfl (sm_oc (by decide) (sm_on)) ?_
  refine w_if_lt (tgt := 23) dX12_apart_11 rfl (fun hc => ?_) (fun hc => ?_)
  · replace hf := sm_ift hc hf
    refine w_blk bX12_apart_23 [.ref 72, .retAddr 0] [.int (-3 : Int32)] (sm_hp (sm_w1 m 72 0 (0 : Int32))) [] rfl (sm_on) ?_
    obtain rfl := Option.some.inj hf
    exact w_reti dX12_apart_25 rfl rfl
  · replace hf := sm_iff hc hf
    refine w_blk bX12_apart_14 [.ref 72, .retAddr 0] [.int (m.1 89 1)] (sm_hp (sm_w1 m 72 0 (0 : Int32))) [((1 : Int32), 2)] rfl (sm_oc (by decide) (sm_on)) ?_
    refine w_if_ge (tgt := 26) dX12_apart_20 rfl (fun hc => ?_) (fun hc => ?_)
    · replace hf := sm_ift hc hf
      refine w_blk bX12_apart_26 [.ref 72, .int (0 : Int32)] [] (sm_hp (sm_w1 m 72 0 (0 : Int32))) [] rfl (sm_on) ?_
      exact tX12_apart_28 sm_fu (0 : Int32) (sm_w1 m 72 0 (0 : Int32)) r hf
    · replace hf := sm_iff hc hf
      refine w_blk bX12_apart_23 [.ref 72, .retAddr 0] [.int (-3 : Int32)] (sm_hp (sm_w1 m 72 0 (0 : Int32))) [] rfl (sm_on) ?_
      obtain rfl := Option.some.inj hf
      exact w_reti dX12_apart_25 rfl rfl
set_option maxRecDepth 10000 in
theorem tX12_sleeps {l : Launch} {al : Bool} (m : sm_S) (r : Int32 × sm_S) (hf : fX12_sleeps m = some r) : sm_Rt l mX12_sleeps 2 0 0 al al [.ref 72] (sm_hp m) (some (.int r.1), sm_hp r.2) := by
  refine sm_Rt.ofW (L := [.ref 72, .retAddr 0]) (by decide) (Nat.le_of_ble_eq_true rfl) rfl ?_
  unfold fX12_sleeps at hf
  refine w_blk bX12_sleeps_0 [.ref 72, .retAddr 0] [.int (m.1 72 18), .int (60 : Int32)] (sm_hp m) [] rfl (sm_on) ?_
  replace hf := sm_bd hf
  obtain ⟨r2, q1, hf⟩ := hf
  refine w_callS [.int (m.1 72 18)] [.int (60 : Int32)] (tX12_dayOf (m.1 72 18) m r2 q1) (csX12_129 rfl) dX12_sleeps_6 rfl rfl (by decide) (by decide) (Nat.le_of_ble_eq_true rfl) ?_
  show sm_W _ _ _ _ _ 9 [.ref 72, .retAddr 0] [.int r2, .int (60 : Int32)] (sm_hp m)
  refine w_blk bX12_sleeps_9 [.ref 72, .int ((60 : Int32) * (r2 + (1 : Int32)))] [.int (m.1 72 16), .int ((60 : Int32) * (r2 + (1 : Int32)))] (sm_hp m) [] rfl (sm_on) ?_
  refine w_icmp_le (tgt := 38) dX12_sleeps_18 rfl (fun hc => ?_) (fun hc => ?_)
  · replace hf := sm_ift hc hf
    refine w_blk bX12_sleeps_38 [.ref 72, .int ((60 : Int32) * (r2 + (1 : Int32)))] [.int (1 : Int32)] (sm_hp (sm_w1 m 72 18 ((60 : Int32) * (r2 + (1 : Int32))))) [] rfl (sm_on) ?_
    obtain rfl := Option.some.inj hf
    exact w_reti dX12_sleeps_44 rfl sm_nb1
  · replace hf := sm_iff hc hf
    refine w_blk bX12_sleeps_21 [.ref 72, .int ((60 : Int32) * (r2 + (1 : Int32)))] [.int (0 : Int32)] (sm_hp (sm_w1 m 72 18 (if (m.1 72 18) < (m.1 72 16) then (m.1 72 16) else (m.1 72 18)))) [] rfl (sm_on) ?_
    obtain rfl := Option.some.inj hf
    exact w_reti dX12_sleeps_37 rfl sm_nb0
set_option maxRecDepth 10000 in
theorem tX12_season_99 {l : Launch} {al : Bool} (k70 : Int32 → Int32 → Int32 → Int32 → sm_S → Option (Int32 × sm_S)) (k59 : Int32 → Int32 → Int32 → Int32 → Int32 → sm_S → Option (Int32 × sm_S)) (hk70 : ∀ (v1 : Int32) (v2 : Int32) (v3 : Int32) (v5 : Int32) (m : sm_S) (r : Int32 × sm_S), k70 v1 v2 v3 v5 m = some r → sm_W l mX12_season 5 al (some (.int r.1), sm_hp r.2) 70 [.ref 72, .int v1, .int v2, .int v3, .retAddr 0, .int v5, .retAddr 0, .retAddr 0, .retAddr 0] [] (sm_hp m)) (hk59 : ∀ (v1 : Int32) (v2 : Int32) (v3 : Int32) (v4 : Int32) (v5 : Int32) (m : sm_S) (r : Int32 × sm_S), k59 v1 v2 v3 v4 v5 m = some r → sm_W l mX12_season 5 al (some (.int r.1), sm_hp r.2) 59 [.ref 72, .int v1, .int v2, .int v3, .int v4, .int v5, .retAddr 0, .retAddr 0, .retAddr 0] [] (sm_hp m)) : ∀ (n : Nat) (v1 : Int32) (v2 : Int32) (v3 : Int32) (v5 : Int32) (v6 : Int32) (v7 : Int32) (v8 : Int32) (m : sm_S) (r : Int32 × sm_S), fX12_season_99 k70 k59 n v1 v2 v3 v5 v6 v7 v8 m = some r → sm_W l mX12_season 5 al (some (.int r.1), sm_hp r.2) 99 [.ref 72, .int v1, .int v2, .int v3, .retAddr 0, .int v5, .int v6, .int v7, .int v8] [] (sm_hp m) := by
  intro n
  induction n with
  | zero =>
    intro v1 v2 v3 v5 v6 v7 v8 m r hf
    unfold fX12_season_99 at hf
    cases hf
  | succ n ih =>
    intro v1 v2 v3 v5 v6 v7 v8 m r hf
    unfold fX12_season_99 at hf
    refine w_blk bX12_season_99 [.ref 72, .int v1, .int v2, .int v3, .retAddr 0, .int v5, .int v6, .int v7, .int v8] [.int (m.1 72 6), .int v8] (sm_hp m) [] rfl (sm_on) ?_
    refine w_icmp_ge (tgt := 155) dX12_season_105 rfl (fun hc => ?_) (fun hc => ?_)
    · replace hf := sm_ift hc hf
      refine w_blk bX12_season_155 [.ref 72, .int v1, .int v2, .int v3, .retAddr 0, .int v5, .int v6, .int v7, .int v8] [.int v7, .ref 72] (sm_hp m) [] rfl (sm_on) ?_
      replace hf := sm_bd hf
      obtain ⟨r26, q25, hf⟩ := hf
      refine w_callV [.int v7] [] (tX12_walks v7 m r26 q25) (cvX12_211 rfl) dX12_season_158 rfl rfl (by decide) (by decide) rfl (Nat.le_of_ble_eq_true rfl) ?_
      show sm_W _ _ _ _ _ 161 [.ref 72, .int v1, .int v2, .int v3, .retAddr 0, .int v5, .int v6, .int v7, .int v8] [.int r26.1] (sm_hp r26.2)
      replace hf := sm_ck hf
      obtain ⟨q27, hf⟩ := hf
      refine w_blk bX12_season_161 [.ref 72, .int v1, .int (v2 + (1 : Int32)), .int (v3 + (r26.2.1 81 (v7).toNatClampNeg)), .retAddr 0, .int v5, .int v6, .int v7, .int v8] [] (sm_hp r26.2) [(v7, 14)] rfl (sm_oc q27 (sm_on)) ?_
      refine w_goto (tgt := 70) dX12_season_175 rfl ?_
      refine w_wk [true, true, true, true, false, true, false, false, false] ?_
      exact hk70 v1 (v2 + (1 : Int32)) (v3 + (r26.2.1 81 (v7).toNatClampNeg)) v5 r26.2 r hf
    · replace hf := sm_iff hc hf
      refine w_blk bX12_season_108 [.ref 72, .int v1, .int v2, .int v3, .retAddr 0, .int v5, .int v6, .int v7, .int v8] [.int v8, .int v6] (sm_hp m) [] rfl (sm_on) ?_
      replace hf := sm_bd hf
      obtain ⟨r29, q28, hf⟩ := hf
      refine w_callS [.int v6, .int v8] [] (tX12_has v6 v8 m r29 q28) (csX12_144 rfl) dX12_season_112 rfl rfl (by decide) (by decide) (Nat.le_of_ble_eq_true rfl) ?_
      show sm_W _ _ _ _ _ 115 [.ref 72, .int v1, .int v2, .int v3, .retAddr 0, .int v5, .int v6, .int v7, .int v8] [.int r29] (sm_hp m)
      refine w_if_eq (tgt := 145) dX12_season_115 rfl (fun hc => ?_) (fun hc => ?_)
      · replace hf := sm_ift hc hf
        refine w_blk bX12_season_145 [.ref 72, .int v1, .int v2, .int v3, .retAddr 0, .int v5, .int v6, .int v7, .int v8] [.int v7] (sm_hp m) [] rfl (sm_on) ?_
        refine w_blk bX12_season_147 [.ref 72, .int v1, .int v2, .int v3, .retAddr 0, .int v5, .int v6, .int v7, .int (v8 + (1 : Int32))] [] (sm_hp m) [] rfl (sm_on) ?_
        refine w_goto (tgt := 99) dX12_season_152 rfl ?_
        exact ih v1 v2 v3 v5 v6 v7 (v8 + (1 : Int32)) m r hf
      · replace hf := sm_iff hc hf
        refine w_blk bX12_season_118 [.ref 72, .int v1, .int v2, .int v3, .retAddr 0, .int v5, .int v6, .int v7, .int v8] [.int v7] (sm_hp m) [] rfl (sm_on) ?_
        refine w_if_lt (tgt := 140) dX12_season_120 rfl (fun hc => ?_) (fun hc => ?_)
        · replace hf := sm_ift hc hf
          refine w_blk bX12_season_140 [.ref 72, .int v1, .int v2, .int v3, .retAddr 0, .int v5, .int v6, .int v7, .int v8] [.int v8] (sm_hp m) [] rfl (sm_on) ?_
          refine w_goto (tgt := 147) dX12_season_142 rfl ?_
          refine w_blk bX12_season_147 [.ref 72, .int v1, .int v2, .int v3, .retAddr 0, .int v5, .int v6, .int v8, .int (v8 + (1 : Int32))] [] (sm_hp m) [] rfl (sm_on) ?_
          refine w_goto (tgt := 99) dX12_season_152 rfl ?_
          exact ih v1 v2 v3 v5 v6 v8 (v8 + (1 : Int32)) m r hf
        · replace hf := sm_iff hc hf
          replace hf := sm_ck hf
          obtain ⟨q30, hf⟩ := hf
          replace hf := sm_ck hf
          obtain ⟨q31, hf⟩ := hf
          refine w_blk bX12_season_123 [.ref 72, .int v1, .int v2, .int v3, .retAddr 0, .int v5, .int v6, .int v7, .int v8] [.int (m.1 81 (v7).toNatClampNeg), .int (m.1 81 (v8).toNatClampNeg)] (sm_hp m) [(v8, 14), (v7, 14)] rfl (sm_oc q30 (sm_oc q31 (sm_on))) ?_
          refine w_icmp_le (tgt := 145) dX12_season_137 rfl (fun hc => ?_) (fun hc => ?_)
          · replace hf := sm_ift hc hf
            refine w_blk bX12_season_145 [.ref 72, .int v1, .int v2, .int v3, .retAddr 0, .int v5, .int v6, .int v7, .int v8] [.int v7] (sm_hp m) [] rfl (sm_on) ?_
            refine w_blk bX12_season_147 [.ref 72, .int v1, .int v2, .int v3, .retAddr 0, .int v5, .int v6, .int v7, .int (v8 + (1 : Int32))] [] (sm_hp m) [] rfl (sm_on) ?_
            refine w_goto (tgt := 99) dX12_season_152 rfl ?_
            exact ih v1 v2 v3 v5 v6 v7 (v8 + (1 : Int32)) m r hf
          · replace hf := sm_iff hc hf
            refine w_blk bX12_season_140 [.ref 72, .int v1, .int v2, .int v3, .retAddr 0, .int v5, .int v6, .int v7, .int v8] [.int v8] (sm_hp m) [] rfl (sm_on) ?_
            refine w_goto (tgt := 147) dX12_season_142 rfl ?_
            refine w_blk bX12_season_147 [.ref 72, .int v1, .int v2, .int v3, .retAddr 0, .int v5, .int v6, .int v8, .int (v8 + (1 : Int32))] [] (sm_hp m) [] rfl (sm_on) ?_
            refine w_goto (tgt := 99) dX12_season_152 rfl ?_
            exact ih v1 v2 v3 v5 v6 v8 (v8 + (1 : Int32)) m r hf
set_option maxRecDepth 10000 in
theorem tX12_season_70 {l : Launch} {al : Bool} (k59 : Int32 → Int32 → Int32 → Int32 → Int32 → sm_S → Option (Int32 × sm_S)) (hk59 : ∀ (v1 : Int32) (v2 : Int32) (v3 : Int32) (v4 : Int32) (v5 : Int32) (m : sm_S) (r : Int32 × sm_S), k59 v1 v2 v3 v4 v5 m = some r → sm_W l mX12_season 5 al (some (.int r.1), sm_hp r.2) 59 [.ref 72, .int v1, .int v2, .int v3, .int v4, .int v5, .retAddr 0, .retAddr 0, .retAddr 0] [] (sm_hp m)) : ∀ (n : Nat) (v1 : Int32) (v2 : Int32) (v3 : Int32) (v5 : Int32) (m : sm_S) (r : Int32 × sm_S), fX12_season_70 k59 n v1 v2 v3 v5 m = some r → sm_W l mX12_season 5 al (some (.int r.1), sm_hp r.2) 70 [.ref 72, .int v1, .int v2, .int v3, .retAddr 0, .int v5, .retAddr 0, .retAddr 0, .retAddr 0] [] (sm_hp m) := by
  intro n
  induction n with
  | zero =>
    intro v1 v2 v3 v5 m r hf
    unfold fX12_season_70 at hf
    cases hf
  | succ n ih =>
    intro v1 v2 v3 v5 m r hf
    unfold fX12_season_70 at hf
    refine w_blk bX12_season_70 [.ref 72, .int v1, .int v2, .int v3, .retAddr 0, .int v5, .retAddr 0, .retAddr 0, .retAddr 0] [.int (m.1 72 18)] (sm_hp m) [] rfl (sm_on) ?_
    replace hf := sm_bd hf
    obtain ⟨r16, q15, hf⟩ := hf
    refine w_callS [.int (m.1 72 18)] [] (tX12_isLight (m.1 72 18) m r16 q15) (csX12_183 rfl) dX12_season_74 rfl rfl (by decide) (by decide) (Nat.le_of_ble_eq_true rfl) ?_
    show sm_W _ _ _ _ _ 77 [.ref 72, .int v1, .int v2, .int v3, .retAddr 0, .int v5, .retAddr 0, .retAddr 0, .retAddr 0] [.int r16] (sm_hp m)
    refine w_if_eq (tgt := 178) dX12_season_77 rfl (fun hc => ?_) (fun hc => ?_)
    · replace hf := sm_ift hc hf
      refine w_blk bX12_season_178 [.ref 72, .int v1, .int v2, .int v3, .retAddr 0, .int v5, .retAddr 0, .retAddr 0, .retAddr 0] [.ref 72] (sm_hp m) [] rfl (sm_on) ?_
      replace hf := sm_bd hf
      obtain ⟨r18, q17, hf⟩ := hf
      refine w_callV [] [] (tX12_sleeps m r18 q17) (cvX12_260 rfl) dX12_season_179 rfl rfl (by decide) (by decide) rfl (Nat.le_of_ble_eq_true rfl) ?_
      show sm_W _ _ _ _ _ 182 [.ref 72, .int v1, .int v2, .int v3, .retAddr 0, .int v5, .retAddr 0, .retAddr 0, .retAddr 0] [.int r18.1] (sm_hp r18.2)
      refine w_blk bX12_season_182 [.ref 72, .int v1, .int v2, .int v3, .int r18.1, .int (v5 + (1 : Int32)), .retAddr 0, .retAddr 0, .retAddr 0] [] (sm_hp r18.2) [] rfl (sm_on) ?_
      refine w_goto (tgt := 59) dX12_season_187 rfl ?_
      exact hk59 v1 v2 v3 r18.1 (v5 + (1 : Int32)) r18.2 r hf
    · replace hf := sm_iff hc hf
      refine w_blk bX12_season_80 [.ref 72, .int v1, .int v2, .int v3, .retAddr 0, .int v5, .retAddr 0, .retAddr 0, .retAddr 0] [.ref 72] (sm_hp m) [] rfl (sm_on) ?_
      replace hf := sm_bd hf
      obtain ⟨r20, q19, hf⟩ := hf
      refine w_callV [] [] (tX12_canNow m r20 q19) (cvX12_214 rfl) dX12_season_81 rfl rfl (by decide) (by decide) rfl (Nat.le_of_ble_eq_true rfl) ?_
      show sm_W _ _ _ _ _ 84 [.ref 72, .int v1, .int v2, .int v3, .retAddr 0, .int v5, .retAddr 0, .retAddr 0, .retAddr 0] [.int r20] (sm_hp m)
      refine w_if_eq (tgt := 178) dX12_season_84 rfl (fun hc => ?_) (fun hc => ?_)
      · replace hf := sm_ift hc hf
        refine w_blk bX12_season_178 [.ref 72, .int v1, .int v2, .int v3, .retAddr 0, .int v5, .retAddr 0, .retAddr 0, .retAddr 0] [.ref 72] (sm_hp m) [] rfl (sm_on) ?_
        replace hf := sm_bd hf
        obtain ⟨r22, q21, hf⟩ := hf
        refine w_callV [] [] (tX12_sleeps m r22 q21) (cvX12_260 rfl) dX12_season_179 rfl rfl (by decide) (by decide) rfl (Nat.le_of_ble_eq_true rfl) ?_
        show sm_W _ _ _ _ _ 182 [.ref 72, .int v1, .int v2, .int v3, .retAddr 0, .int v5, .retAddr 0, .retAddr 0, .retAddr 0] [.int r22.1] (sm_hp r22.2)
        refine w_blk bX12_season_182 [.ref 72, .int v1, .int v2, .int v3, .int r22.1, .int (v5 + (1 : Int32)), .retAddr 0, .retAddr 0, .retAddr 0] [] (sm_hp r22.2) [] rfl (sm_on) ?_
        refine w_goto (tgt := 59) dX12_season_187 rfl ?_
        exact hk59 v1 v2 v3 r22.1 (v5 + (1 : Int32)) r22.2 r hf
      · replace hf := sm_iff hc hf
        refine w_blk bX12_season_87 [.ref 72, .int v1, .int v2, .int v3, .retAddr 0, .int v5, .retAddr 0, .retAddr 0, .retAddr 0] [.ref 72] (sm_hp m) [] rfl (sm_on) ?_
        replace hf := sm_bd hf
        obtain ⟨r24, q23, hf⟩ := hf
        refine w_callV [] [] (tX12_canNow m r24 q23) (cvX12_214 rfl) dX12_season_88 rfl rfl (by decide) (by decide) rfl (Nat.le_of_ble_eq_true rfl) ?_
        show sm_W _ _ _ _ _ 91 [.ref 72, .int v1, .int v2, .int v3, .retAddr 0, .int v5, .retAddr 0, .retAddr 0, .retAddr 0] [.int r24] (sm_hp m)
        refine w_blk bX12_season_91 [.ref 72, .int v1, .int v2, .int v3, .retAddr 0, .int v5, .int r24, .int (-1 : Int32), .int (0 : Int32)] [] (sm_hp m) [] rfl (sm_on) ?_
        exact tX12_season_99 (fX12_season_70 k59 n) k59 ih hk59 sm_fu v1 v2 v3 v5 r24 (-1 : Int32) (0 : Int32) m r hf
set_option maxRecDepth 10000 in
theorem tX12_season_59 {l : Launch} {al : Bool} : ∀ (n : Nat) (v1 : Int32) (v2 : Int32) (v3 : Int32) (v4 : Int32) (v5 : Int32) (m : sm_S) (r : Int32 × sm_S), fX12_season_59 n v1 v2 v3 v4 v5 m = some r → sm_W l mX12_season 5 al (some (.int r.1), sm_hp r.2) 59 [.ref 72, .int v1, .int v2, .int v3, .int v4, .int v5, .retAddr 0, .retAddr 0, .retAddr 0] [] (sm_hp m) := by
  intro n
  induction n with
  | zero =>
    intro v1 v2 v3 v4 v5 m r hf
    unfold fX12_season_59 at hf
    cases hf
  | succ n ih =>
    intro v1 v2 v3 v4 v5 m r hf
    unfold fX12_season_59 at hf
    refine w_blk bX12_season_59 [.ref 72, .int v1, .int v2, .int v3, .int v4, .int v5, .retAddr 0, .retAddr 0, .retAddr 0] [.int v1, .int v5] (sm_hp m) [] rfl (sm_on) ?_
    refine w_icmp_ge (tgt := 190) dX12_season_62 rfl (fun hc => ?_) (fun hc => ?_)
    · replace hf := sm_ift hc hf
      refine w_blk bX12_season_190 [.ref 72, .int v1, .int v2, .int v3, .int v4, .int v5, .retAddr 0, .retAddr 0, .retAddr 0] [.int v3, .ref 72] (sm_hp (sm_w1 m 72 1 (0 : Int32))) [] rfl (sm_on) ?_
      replace hf := sm_bd hf
      obtain ⟨m4, q3, hf⟩ := hf
      refine w_callV [.int v3] [] (tX12_enters v3 (sm_w1 m 72 1 (0 : Int32)) m4 q3) (cvX12_229 rfl) dX12_season_197 rfl rfl (by decide) (by decide) rfl (Nat.le_of_ble_eq_true rfl) ?_
      show sm_W _ _ _ _ _ 200 [.ref 72, .int v1, .int v2, .int v3, .int v4, .int v5, .retAddr 0, .retAddr 0, .retAddr 0] [] (sm_hp m4)
      refine w_blk bX12_season_200 [.ref 72, .int v1, .int v2, .int v3, .int v4, .int v5, .retAddr 0, .retAddr 0, .retAddr 0] [.int (m4.1 72 3), .ref 72] (sm_hp m4) [] rfl (sm_on) ?_
      refine w_if_ne (tgt := 212) dX12_season_205 rfl (fun hc => ?_) (fun hc => ?_)
      · replace hf := sm_iff hc hf
        refine w_blk bX12_season_212 [.ref 72, .int v1, .int v2, .int v3, .int v4, .int v5, .retAddr 0, .retAddr 0, .retAddr 0] [.int (m4.1 72 17), .ref 72] (sm_hp m4) [] rfl (sm_on) ?_
        replace hf := sm_bd hf
        obtain ⟨m6, q5, hf⟩ := hf
        refine w_callV [.int (m4.1 72 17)] [] (tX12_enters (m4.1 72 17) m4 m6 q5) (cvX12_229 rfl) dX12_season_216 rfl rfl (by decide) (by decide) rfl (Nat.le_of_ble_eq_true rfl) ?_
        show sm_W _ _ _ _ _ 219 [.ref 72, .int v1, .int v2, .int v3, .int v4, .int v5, .retAddr 0, .retAddr 0, .retAddr 0] [] (sm_hp m6)
        refine w_blk bX12_season_219 [.ref 72, .int v1, .int v2, .int v3, .int v4, .int v5, .retAddr 0, .retAddr 0, .retAddr 0] [.int v2] (sm_hp m6) [] rfl (sm_on) ?_
        obtain rfl := Option.some.inj hf
        exact w_reti dX12_season_220 rfl rfl
      · replace hf := sm_ift hc hf
        refine w_blk bX12_season_208 [.ref 72, .int v1, .int v2, .int v3, .int v4, .int v5, .retAddr 0, .retAddr 0, .retAddr 0] [.int (-1 : Int32), .ref 72] (sm_hp m4) [] rfl (sm_on) ?_
        refine w_goto (tgt := 216) dX12_season_209 rfl ?_
        replace hf := sm_bd hf
        obtain ⟨m8, q7, hf⟩ := hf
        refine w_callV [.int (-1 : Int32)] [] (tX12_enters (-1 : Int32) m4 m8 q7) (cvX12_229 rfl) dX12_season_216 rfl rfl (by decide) (by decide) rfl (Nat.le_of_ble_eq_true rfl) ?_
        show sm_W _ _ _ _ _ 219 [.ref 72, .int v1, .int v2, .int v3, .int v4, .int v5, .retAddr 0, .retAddr 0, .retAddr 0] [] (sm_hp m8)
        refine w_blk bX12_season_219 [.ref 72, .int v1, .int v2, .int v3, .int v4, .int v5, .retAddr 0, .retAddr 0, .retAddr 0] [.int v2] (sm_hp m8) [] rfl (sm_on) ?_
        obtain rfl := Option.some.inj hf
        exact w_reti dX12_season_220 rfl rfl
    · replace hf := sm_iff hc hf
      refine w_blk bX12_season_65 [.ref 72, .int v1, .int v2, .int v3, .int v4, .int v5, .retAddr 0, .retAddr 0, .retAddr 0] [.int v4] (sm_hp m) [] rfl (sm_on) ?_
      refine w_if_eq (tgt := 190) dX12_season_67 rfl (fun hc => ?_) (fun hc => ?_)
      · replace hf := sm_ift hc hf
        refine w_blk bX12_season_190 [.ref 72, .int v1, .int v2, .int v3, .int v4, .int v5, .retAddr 0, .retAddr 0, .retAddr 0] [.int v3, .ref 72] (sm_hp (sm_w1 m 72 1 (0 : Int32))) [] rfl (sm_on) ?_
        replace hf := sm_bd hf
        obtain ⟨m10, q9, hf⟩ := hf
        refine w_callV [.int v3] [] (tX12_enters v3 (sm_w1 m 72 1 (0 : Int32)) m10 q9) (cvX12_229 rfl) dX12_season_197 rfl rfl (by decide) (by decide) rfl (Nat.le_of_ble_eq_true rfl) ?_
        show sm_W _ _ _ _ _ 200 [.ref 72, .int v1, .int v2, .int v3, .int v4, .int v5, .retAddr 0, .retAddr 0, .retAddr 0] [] (sm_hp m10)
        refine w_blk bX12_season_200 [.ref 72, .int v1, .int v2, .int v3, .int v4, .int v5, .retAddr 0, .retAddr 0, .retAddr 0] [.int (m10.1 72 3), .ref 72] (sm_hp m10) [] rfl (sm_on) ?_
        refine w_if_ne (tgt := 212) dX12_season_205 rfl (fun hc => ?_) (fun hc => ?_)
        · replace hf := sm_iff hc hf
          refine w_blk bX12_season_212 [.ref 72, .int v1, .int v2, .int v3, .int v4, .int v5, .retAddr 0, .retAddr 0, .retAddr 0] [.int (m10.1 72 17), .ref 72] (sm_hp m10) [] rfl (sm_on) ?_
          replace hf := sm_bd hf
          obtain ⟨m12, q11, hf⟩ := hf
          refine w_callV [.int (m10.1 72 17)] [] (tX12_enters (m10.1 72 17) m10 m12 q11) (cvX12_229 rfl) dX12_season_216 rfl rfl (by decide) (by decide) rfl (Nat.le_of_ble_eq_true rfl) ?_
          show sm_W _ _ _ _ _ 219 [.ref 72, .int v1, .int v2, .int v3, .int v4, .int v5, .retAddr 0, .retAddr 0, .retAddr 0] [] (sm_hp m12)
          refine w_blk bX12_season_219 [.ref 72, .int v1, .int v2, .int v3, .int v4, .int v5, .retAddr 0, .retAddr 0, .retAddr 0] [.int v2] (sm_hp m12) [] rfl (sm_on) ?_
          obtain rfl := Option.some.inj hf
          exact w_reti dX12_season_220 rfl rfl
        · replace hf := sm_ift hc hf
          refine w_blk bX12_season_208 [.ref 72, .int v1, .int v2, .int v3, .int v4, .int v5, .retAddr 0, .retAddr 0, .retAddr 0] [.int (-1 : Int32), .ref 72] (sm_hp m10) [] rfl (sm_on) ?_
          refine w_goto (tgt := 216) dX12_season_209 rfl ?_
          replace hf := sm_bd hf
          obtain ⟨m14, q13, hf⟩ := hf
          refine w_callV [.int (-1 : Int32)] [] (tX12_enters (-1 : Int32) m10 m14 q13) (cvX12_229 rfl) dX12_season_216 rfl rfl (by decide) (by decide) rfl (Nat.le_of_ble_eq_true rfl) ?_
          show sm_W _ _ _ _ _ 219 [.ref 72, .int v1, .int v2, .int v3, .int v4, .int v5, .retAddr 0, .retAddr 0, .retAddr 0] [] (sm_hp m14)
          refine w_blk bX12_season_219 [.ref 72, .int v1, .int v2, .int v3, .int v4, .int v5, .retAddr 0, .retAddr 0, .retAddr 0] [.int v2] (sm_hp m14) [] rfl (sm_on) ?_
          obtain rfl := Option.some.inj hf
          exact w_reti dX12_season_220 rfl rfl
      · replace hf := sm_iff hc hf
        refine w_wk [true, true, true, true, false, true, false, false, false] ?_
        exact tX12_season_70 (fX12_season_59 n) ih sm_fu v1 v2 v3 v5 m r hf
set_option maxRecDepth 10000 in
theorem tX12_season {l : Launch} {al : Bool} (x1 : Int32) (m : sm_S) (r : Int32 × sm_S) (hf : fX12_season x1 m = some r) : sm_Rt l mX12_season 5 0 0 al al [.ref 72, .int x1] (sm_hp m) (some (.int r.1), sm_hp r.2) := by
  refine sm_Rt.ofW (L := [.ref 72, .int x1, .retAddr 0, .retAddr 0, .retAddr 0, .retAddr 0, .retAddr 0, .retAddr 0, .retAddr 0]) (by decide) (Nat.le_of_ble_eq_true rfl) rfl ?_
  unfold fX12_season at hf
  refine w_blk bX12_season_0 [.ref 72, .int x1, .retAddr 0, .retAddr 0, .retAddr 0, .retAddr 0, .retAddr 0, .retAddr 0, .retAddr 0] [.long (60 : Int64), .long (0 : Int64), .long (x1).toInt64] (sm_hp (sm_w1 m 72 0 (0 : Int32))) [] rfl (sm_on) ?_
  replace hf := sm_bd hf
  obtain ⟨r2, q1, hf⟩ := hf
  refine w_callS [.long (x1).toInt64, .long (0 : Int64), .long (60 : Int64)] [] (tX12_in (x1).toInt64 (0 : Int64) (60 : Int64) (sm_w1 m 72 0 (0 : Int32)) r2 q1) (csX12_17 rfl) dX12_season_11 rfl rfl (by decide) (by decide) (Nat.le_of_ble_eq_true rfl) ?_
  show sm_W _ _ _ _ _ 14 [.ref 72, .int x1, .retAddr 0, .retAddr 0, .retAddr 0, .retAddr 0, .retAddr 0, .retAddr 0, .retAddr 0] [.int r2] (sm_hp (sm_w1 m 72 0 (0 : Int32)))
  refine w_if_ne (tgt := 19) dX12_season_14 rfl (fun hc => ?_) (fun hc => ?_)
  · replace hf := sm_iff hc hf
    refine w_blk bX12_season_19 [.ref 72, .int x1, .int (0 : Int32), .int (0 : Int32), .retAddr 0, .retAddr 0, .retAddr 0, .retAddr 0, .retAddr 0] [.int x1] (sm_hp (sm_w1 (sm_w1 m 72 0 (0 : Int32)) 72 27 (0 : Int32))) [] rfl (sm_on) ?_
    refine w_if_le (tgt := 53) dX12_season_29 rfl (fun hc => ?_) (fun hc => ?_)
    · replace hf := sm_ift hc hf
      refine w_blk bX12_season_53 [.ref 72, .int x1, .int (0 : Int32), .int (0 : Int32), .retAddr 0, .retAddr 0, .retAddr 0, .retAddr 0, .retAddr 0] [.int (0 : Int32)] (sm_hp (sm_w1 (sm_w1 m 72 0 (0 : Int32)) 72 27 (0 : Int32))) [] rfl (sm_on) ?_
      refine w_blk bX12_season_54 [.ref 72, .int x1, .int (0 : Int32), .int (0 : Int32), .int (0 : Int32), .int (0 : Int32), .retAddr 0, .retAddr 0, .retAddr 0] [] (sm_hp (sm_w1 (sm_w1 m 72 0 (0 : Int32)) 72 27 (0 : Int32))) [] rfl (sm_on) ?_
      exact tX12_season_59 sm_fu x1 (0 : Int32) (0 : Int32) (0 : Int32) (0 : Int32) (sm_w1 (sm_w1 m 72 0 (0 : Int32)) 72 27 (0 : Int32)) r hf
    · replace hf := sm_iff hc hf
      refine w_blk bX12_season_32 [.ref 72, .int x1, .int (0 : Int32), .int (0 : Int32), .retAddr 0, .retAddr 0, .retAddr 0, .retAddr 0, .retAddr 0] [.int (m.1 72 18)] (sm_hp (sm_w1 (sm_w1 m 72 0 (0 : Int32)) 72 27 (0 : Int32))) [] rfl (sm_on) ?_
      replace hf := sm_bd hf
      obtain ⟨r33, q32, hf⟩ := hf
      refine w_callS [.int (m.1 72 18)] [] (tX12_isLight (m.1 72 18) (sm_w1 (sm_w1 m 72 0 (0 : Int32)) 72 27 (0 : Int32)) r33 q32) (csX12_183 rfl) dX12_season_36 rfl rfl (by decide) (by decide) (Nat.le_of_ble_eq_true rfl) ?_
      show sm_W _ _ _ _ _ 39 [.ref 72, .int x1, .int (0 : Int32), .int (0 : Int32), .retAddr 0, .retAddr 0, .retAddr 0, .retAddr 0, .retAddr 0] [.int r33] (sm_hp (sm_w1 (sm_w1 m 72 0 (0 : Int32)) 72 27 (0 : Int32)))
      refine w_if_ne (tgt := 49) dX12_season_39 rfl (fun hc => ?_) (fun hc => ?_)
      · replace hf := sm_iff hc hf
        refine w_blk bX12_season_49 [.ref 72, .int x1, .int (0 : Int32), .int (0 : Int32), .retAddr 0, .retAddr 0, .retAddr 0, .retAddr 0, .retAddr 0] [.int (1 : Int32)] (sm_hp (sm_w1 (sm_w1 m 72 0 (0 : Int32)) 72 27 (0 : Int32))) [] rfl (sm_on) ?_
        refine w_goto (tgt := 54) dX12_season_50 rfl ?_
        refine w_blk bX12_season_54 [.ref 72, .int x1, .int (0 : Int32), .int (0 : Int32), .int (1 : Int32), .int (0 : Int32), .retAddr 0, .retAddr 0, .retAddr 0] [] (sm_hp (sm_w1 (sm_w1 m 72 0 (0 : Int32)) 72 27 (0 : Int32))) [] rfl (sm_on) ?_
        exact tX12_season_59 sm_fu x1 (0 : Int32) (0 : Int32) (1 : Int32) (0 : Int32) (sm_w1 (sm_w1 m 72 0 (0 : Int32)) 72 27 (0 : Int32)) r hf
      · replace hf := sm_ift hc hf
        refine w_blk bX12_season_42 [.ref 72, .int x1, .int (0 : Int32), .int (0 : Int32), .retAddr 0, .retAddr 0, .retAddr 0, .retAddr 0, .retAddr 0] [.ref 72] (sm_hp (sm_w1 (sm_w1 m 72 0 (0 : Int32)) 72 27 (0 : Int32))) [] rfl (sm_on) ?_
        replace hf := sm_bd hf
        obtain ⟨r35, q34, hf⟩ := hf
        refine w_callV [] [] (tX12_sleeps (sm_w1 (sm_w1 m 72 0 (0 : Int32)) 72 27 (0 : Int32)) r35 q34) (cvX12_260 rfl) dX12_season_43 rfl rfl (by decide) (by decide) rfl (Nat.le_of_ble_eq_true rfl) ?_
        show sm_W _ _ _ _ _ 46 [.ref 72, .int x1, .int (0 : Int32), .int (0 : Int32), .retAddr 0, .retAddr 0, .retAddr 0, .retAddr 0, .retAddr 0] [.int r35.1] (sm_hp r35.2)
        refine w_if_eq (tgt := 53) dX12_season_46 rfl (fun hc => ?_) (fun hc => ?_)
        · replace hf := sm_ift hc hf
          refine w_blk bX12_season_53 [.ref 72, .int x1, .int (0 : Int32), .int (0 : Int32), .retAddr 0, .retAddr 0, .retAddr 0, .retAddr 0, .retAddr 0] [.int (0 : Int32)] (sm_hp r35.2) [] rfl (sm_on) ?_
          refine w_blk bX12_season_54 [.ref 72, .int x1, .int (0 : Int32), .int (0 : Int32), .int (0 : Int32), .int (0 : Int32), .retAddr 0, .retAddr 0, .retAddr 0] [] (sm_hp r35.2) [] rfl (sm_on) ?_
          exact tX12_season_59 sm_fu x1 (0 : Int32) (0 : Int32) (0 : Int32) (0 : Int32) r35.2 r hf
        · replace hf := sm_iff hc hf
          refine w_blk bX12_season_49 [.ref 72, .int x1, .int (0 : Int32), .int (0 : Int32), .retAddr 0, .retAddr 0, .retAddr 0, .retAddr 0, .retAddr 0] [.int (1 : Int32)] (sm_hp r35.2) [] rfl (sm_on) ?_
          refine w_goto (tgt := 54) dX12_season_50 rfl ?_
          refine w_blk bX12_season_54 [.ref 72, .int x1, .int (0 : Int32), .int (0 : Int32), .int (1 : Int32), .int (0 : Int32), .retAddr 0, .retAddr 0, .retAddr 0] [] (sm_hp r35.2) [] rfl (sm_on) ?_
          exact tX12_season_59 sm_fu x1 (0 : Int32) (0 : Int32) (1 : Int32) (0 : Int32) r35.2 r hf
  · replace hf := sm_ift hc hf
    refine w_blk bX12_season_17 [.ref 72, .int x1, .retAddr 0, .retAddr 0, .retAddr 0, .retAddr 0, .retAddr 0, .retAddr 0, .retAddr 0] [.int (-1 : Int32)] (sm_hp (sm_w1 m 72 0 (0 : Int32))) [] rfl (sm_on) ?_
    obtain rfl := Option.some.inj hf
    exact w_reti dX12_season_18 rfl rfl
set_option maxRecDepth 10000 in
theorem tX12_allHedges {l : Launch} {al : Bool} (m : sm_S) (r : Int32) (hf : fX12_allHedges m = some r) : sm_Rt l mX12_allHedges 1 0 0 al al [.ref 72] (sm_hp m) (some (.int r), sm_hp m) := by
  refine sm_Rt.ofW (L := [.ref 72]) (by decide) (Nat.le_of_ble_eq_true rfl) rfl ?_
  unfold fX12_allHedges at hf
  refine w_blk bX12_allHedges_0 [.ref 72] [.int (((1 : Int32) <<< ((m.1 72 6) &&& 31)) - (1 : Int32))] (sm_hp m) [] rfl (sm_on) ?_
  obtain rfl := Option.some.inj hf
  exact w_reti dX12_allHedges_8 rfl rfl
set_option maxRecDepth 10000 in
theorem tX12_oddOf_4 {l : Launch} {al : Bool} : ∀ (n : Nat) (v1 : Int32) (v2 : Int32) (v3 : Int32) (m : sm_S) (r : Int32), fX12_oddOf_4 n v1 v2 v3 m = some r → sm_W l mX12_oddOf 2 al (some (.int r), sm_hp m) 4 [.ref 72, .int v1, .int v2, .int v3] [] (sm_hp m) := by
  intro n
  induction n with
  | zero =>
    intro v1 v2 v3 m r hf
    unfold fX12_oddOf_4 at hf
    cases hf
  | succ n ih =>
    intro v1 v2 v3 m r hf
    unfold fX12_oddOf_4 at hf
    refine w_blk bX12_oddOf_4 [.ref 72, .int v1, .int v2, .int v3] [.int (m.1 72 6), .int v3] (sm_hp m) [] rfl (sm_on) ?_
    refine w_icmp_ge (tgt := 50) dX12_oddOf_9 rfl (fun hc => ?_) (fun hc => ?_)
    · replace hf := sm_ift hc hf
      refine w_blk bX12_oddOf_50 [.ref 72, .int v1, .int v2, .int v3] [.int v2] (sm_hp m) [] rfl (sm_on) ?_
      obtain rfl := Option.some.inj hf
      exact w_reti dX12_oddOf_51 rfl rfl
    · replace hf := sm_iff hc hf
      refine w_blk bX12_oddOf_12 [.ref 72, .int v1, .int v2, .int v3] [.int v3, .int v1, .int v2] (sm_hp m) [] rfl (sm_on) ?_
      replace hf := sm_bd hf
      obtain ⟨r2, q1, hf⟩ := hf
      refine w_callS [.int v1, .int v3] [.int v2] (tX12_has v1 v3 m r2 q1) (csX12_144 rfl) dX12_oddOf_15 rfl rfl (by decide) (by decide) (Nat.le_of_ble_eq_true rfl) ?_
      show sm_W _ _ _ _ _ 18 [.ref 72, .int v1, .int v2, .int v3] [.int r2, .int v2] (sm_hp m)
      refine w_if_eq (tgt := 41) dX12_oddOf_18 rfl (fun hc => ?_) (fun hc => ?_)
      · replace hf := sm_ift hc hf
        refine w_blk bX12_oddOf_41 [.ref 72, .int v1, .int v2, .int v3] [.int (0 : Int32), .int v2] (sm_hp m) [] rfl (sm_on) ?_
        refine w_blk bX12_oddOf_42 [.ref 72, .int v1, .int (v2 ^^^ (0 : Int32)), .int (v3 + (1 : Int32))] [] (sm_hp m) [] rfl (sm_on) ?_
        refine w_goto (tgt := 4) dX12_oddOf_47 rfl ?_
        exact ih v1 (v2 ^^^ (0 : Int32)) (v3 + (1 : Int32)) m r hf
      · replace hf := sm_iff hc hf
        replace hf := sm_ck hf
        obtain ⟨q3, hf⟩ := hf
        replace hf := sm_ck hf
        obtain ⟨q4, hf⟩ := hf
        refine w_blk bX12_oddOf_21 [.ref 72, .int v1, .int v2, .int v3] [.int (((1 : Int32) <<< ((m.1 76 (v3).toNatClampNeg) &&& 31)) ^^^ ((1 : Int32) <<< ((m.1 77 (v3).toNatClampNeg) &&& 31))), .int v2] (sm_hp m) [(v3, 14), (v3, 14)] rfl (sm_oc q3 (sm_oc q4 (sm_on))) ?_
        refine w_goto (tgt := 42) dX12_oddOf_38 rfl ?_
        refine w_blk bX12_oddOf_42 [.ref 72, .int v1, .int (v2 ^^^ (((1 : Int32) <<< ((m.1 76 (v3).toNatClampNeg) &&& 31)) ^^^ ((1 : Int32) <<< ((m.1 77 (v3).toNatClampNeg) &&& 31)))), .int (v3 + (1 : Int32))] [] (sm_hp m) [] rfl (sm_on) ?_
        refine w_goto (tgt := 4) dX12_oddOf_47 rfl ?_
        exact ih v1 (v2 ^^^ (((1 : Int32) <<< ((m.1 76 (v3).toNatClampNeg) &&& 31)) ^^^ ((1 : Int32) <<< ((m.1 77 (v3).toNatClampNeg) &&& 31)))) (v3 + (1 : Int32)) m r hf
set_option maxRecDepth 10000 in
theorem tX12_oddOf {l : Launch} {al : Bool} (x1 : Int32) (m : sm_S) (r : Int32) (hf : fX12_oddOf x1 m = some r) : sm_Rt l mX12_oddOf 2 0 0 al al [.ref 72, .int x1] (sm_hp m) (some (.int r), sm_hp m) := by
  refine sm_Rt.ofW (L := [.ref 72, .int x1, .retAddr 0, .retAddr 0]) (by decide) (Nat.le_of_ble_eq_true rfl) rfl ?_
  unfold fX12_oddOf at hf
  refine w_blk bX12_oddOf_0 [.ref 72, .int x1, .int (0 : Int32), .int (0 : Int32)] [] (sm_hp m) [] rfl (sm_on) ?_
  exact tX12_oddOf_4 sm_fu x1 (0 : Int32) (0 : Int32) m r hf
set_option maxRecDepth 10000 in
theorem tX12_odd {l : Launch} {al : Bool} (m : sm_S) (r : Int32 × sm_S) (hf : fX12_odd m = some r) : sm_Rt l mX12_odd 3 0 0 al al [.ref 72] (sm_hp m) (some (.int r.1), sm_hp r.2) := by
  refine sm_Rt.ofW (L := [.ref 72, .retAddr 0]) (by decide) (Nat.le_of_ble_eq_true rfl) rfl ?_
  unfold fX12_odd at hf
  refine w_blk bX12_odd_0 [.ref 72, .retAddr 0] [.ref 72, .ref 72] (sm_hp (sm_w1 m 72 0 (0 : Int32))) [] rfl (sm_on) ?_
  replace hf := sm_bd hf
  obtain ⟨r2, q1, hf⟩ := hf
  refine w_callV [] [.ref 72] (tX12_allHedges (sm_w1 m 72 0 (0 : Int32)) r2 q1) (cvX12_266 rfl) dX12_odd_7 rfl rfl (by decide) (by decide) rfl (Nat.le_of_ble_eq_true rfl) ?_
  show sm_W _ _ _ _ _ 10 [.ref 72, .retAddr 0] [.int r2, .ref 72] (sm_hp (sm_w1 m 72 0 (0 : Int32)))
  replace hf := sm_bd hf
  obtain ⟨r4, q3, hf⟩ := hf
  refine w_callV [.int r2] [] (tX12_oddOf r2 (sm_w1 m 72 0 (0 : Int32)) r4 q3) (cvX12_269 rfl) dX12_odd_10 rfl rfl (by decide) (by decide) rfl (Nat.le_of_ble_eq_true rfl) ?_
  show sm_W _ _ _ _ _ 13 [.ref 72, .retAddr 0] [.int r4] (sm_hp (sm_w1 m 72 0 (0 : Int32)))
  refine w_blk bX12_odd_13 [.ref 72, .int r4] [.int r4, .ref 72] (sm_hp (sm_w1 (sm_w1 m 72 0 (0 : Int32)) 72 1 (0 : Int32))) [] rfl (sm_on) ?_
  replace hf := sm_bd hf
  obtain ⟨m6, q5, hf⟩ := hf
  refine w_callV [.int r4] [] (tX12_enters r4 (sm_w1 (sm_w1 m 72 0 (0 : Int32)) 72 1 (0 : Int32)) m6 q5) (cvX12_229 rfl) dX12_odd_21 rfl rfl (by decide) (by decide) rfl (Nat.le_of_ble_eq_true rfl) ?_
  show sm_W _ _ _ _ _ 24 [.ref 72, .int r4] [] (sm_hp m6)
  refine w_blk bX12_odd_24 [.ref 72, .int r4] [.int r4] (sm_hp m6) [] rfl (sm_on) ?_
  replace hf := sm_bd hf
  obtain ⟨r8, q7, hf⟩ := hf
  refine w_callS [.int r4] [] (tJ6_bitCount_0f7a4 r4 m6 r8 q7) (csX12_272 rfl) dX12_odd_25 rfl rfl (by decide) (by decide) (Nat.le_of_ble_eq_true rfl) ?_
  show sm_W _ _ _ _ _ 28 [.ref 72, .int r4] [.int r8] (sm_hp m6)
  obtain rfl := Option.some.inj hf
  exact w_reti dX12_odd_28 rfl rfl
set_option maxRecDepth 10000 in
theorem tX12_parts_35 {l : Launch} {al : Bool} (k25 : Int32 → Int32 → sm_S → Option (sm_S)) (hk25 : ∀ (v1 : Int32) (v2 : Int32) (m : sm_S) (r : sm_S), k25 v1 v2 m = some r → sm_W l mX12_parts 2 al (none, sm_hp r) 25 [.ref 72, .int v1, .int v2, .retAddr 0, .retAddr 0] [] (sm_hp m)) : ∀ (n : Nat) (v1 : Int32) (v2 : Int32) (v3 : Int32) (m : sm_S) (r : sm_S), fX12_parts_35 k25 n v1 v2 v3 m = some r → sm_W l mX12_parts 2 al (none, sm_hp r) 35 [.ref 72, .int v1, .int v2, .int v3, .retAddr 0] [] (sm_hp m) := by
  intro n
  induction n with
  | zero =>
    intro v1 v2 v3 m r hf
    unfold fX12_parts_35 at hf
    cases hf
  | succ n ih =>
    intro v1 v2 v3 m r hf
    unfold fX12_parts_35 at hf
    refine w_blk bX12_parts_35 [.ref 72, .int v1, .int v2, .int v3, .retAddr 0] [.int (m.1 72 6), .int v3] (sm_hp m) [] rfl (sm_on) ?_
    refine w_icmp_ge (tgt := 110) dX12_parts_40 rfl (fun hc => ?_) (fun hc => ?_)
    · replace hf := sm_ift hc hf
      refine w_blk bX12_parts_110 [.ref 72, .int v1, .int (v2 + (1 : Int32)), .int v3, .retAddr 0] [] (sm_hp m) [] rfl (sm_on) ?_
      refine w_goto (tgt := 25) dX12_parts_113 rfl ?_
      refine w_wk [true, true, true, false, false] ?_
      exact hk25 v1 (v2 + (1 : Int32)) m r hf
    · replace hf := sm_iff hc hf
      refine w_blk bX12_parts_43 [.ref 72, .int v1, .int v2, .int v3, .retAddr 0] [.int v3, .int v1] (sm_hp m) [] rfl (sm_on) ?_
      replace hf := sm_bd hf
      obtain ⟨r2, q1, hf⟩ := hf
      refine w_callS [.int v1, .int v3] [] (tX12_has v1 v3 m r2 q1) (csX12_144 rfl) dX12_parts_45 rfl rfl (by decide) (by decide) (Nat.le_of_ble_eq_true rfl) ?_
      show sm_W _ _ _ _ _ 48 [.ref 72, .int v1, .int v2, .int v3, .retAddr 0] [.int r2] (sm_hp m)
      refine w_if_eq (tgt := 104) dX12_parts_48 rfl (fun hc => ?_) (fun hc => ?_)
      · replace hf := sm_ift hc hf
        refine w_blk bX12_parts_104 [.ref 72, .int v1, .int v2, .int (v3 + (1 : Int32)), .retAddr 0] [] (sm_hp m) [] rfl (sm_on) ?_
        refine w_goto (tgt := 35) dX12_parts_107 rfl ?_
        exact ih v1 v2 (v3 + (1 : Int32)) m r hf
      · replace hf := sm_iff hc hf
        replace hf := sm_ck hf
        obtain ⟨q3, hf⟩ := hf
        replace hf := sm_ck hf
        obtain ⟨q4, hf⟩ := hf
        replace hf := sm_ck hf
        obtain ⟨q5, hf⟩ := hf
        replace hf := sm_ck hf
        obtain ⟨q6, hf⟩ := hf
        replace hf := sm_ck hf
        obtain ⟨q7, hf⟩ := hf
        replace hf := sm_ck hf
        obtain ⟨q8, hf⟩ := hf
        replace hf := sm_ck hf
        obtain ⟨q9, hf⟩ := hf
        replace hf := sm_ck hf
        obtain ⟨q10, hf⟩ := hf
        refine w_blk bX12_parts_51 [.ref 72, .int v1, .int v2, .int v3, .int (if (m.1 94 (m.1 77 (v3).toNatClampNeg).toNatClampNeg) < (m.1 94 (m.1 76 (v3).toNatClampNeg).toNatClampNeg) then (m.1 94 (m.1 77 (v3).toNatClampNeg).toNatClampNeg) else (m.1 94 (m.1 76 (v3).toNatClampNeg).toNatClampNeg))] [] (sm_hp (sm_w1 (sm_w1 m 94 (m.1 76 (v3).toNatClampNeg).toNatClampNeg (if (m.1 94 (m.1 77 (v3).toNatClampNeg).toNatClampNeg) < (m.1 94 (m.1 76 (v3).toNatClampNeg).toNatClampNeg) then (m.1 94 (m.1 77 (v3).toNatClampNeg).toNatClampNeg) else (m.1 94 (m.1 76 (v3).toNatClampNeg).toNatClampNeg))) 94 (m.1 77 (v3).toNatClampNeg).toNatClampNeg (if (m.1 94 (m.1 77 (v3).toNatClampNeg).toNatClampNeg) < (m.1 94 (m.1 76 (v3).toNatClampNeg).toNatClampNeg) then (m.1 94 (m.1 77 (v3).toNatClampNeg).toNatClampNeg) else (m.1 94 (m.1 76 (v3).toNatClampNeg).toNatClampNeg)))) [(v3, 14), ((m.1 76 (v3).toNatClampNeg), 10), (v3, 14), ((m.1 77 (v3).toNatClampNeg), 10), (v3, 14), ((m.1 76 (v3).toNatClampNeg), 10), (v3, 14), ((m.1 77 (v3).toNatClampNeg), 10)] rfl (sm_oc q3 (sm_oc q4 (sm_oc q5 (sm_oc q6 (sm_oc q7 (sm_oc q8 (sm_oc q9 (sm_oc q10 (sm_on))))))))) ?_
        refine w_blk bX12_parts_104 [.ref 72, .int v1, .int v2, .int (v3 + (1 : Int32)), .int (if (m.1 94 (m.1 77 (v3).toNatClampNeg).toNatClampNeg) < (m.1 94 (m.1 76 (v3).toNatClampNeg).toNatClampNeg) then (m.1 94 (m.1 77 (v3).toNatClampNeg).toNatClampNeg) else (m.1 94 (m.1 76 (v3).toNatClampNeg).toNatClampNeg))] [] (sm_hp (sm_w1 (sm_w1 m 94 (m.1 76 (v3).toNatClampNeg).toNatClampNeg (if (m.1 94 (m.1 77 (v3).toNatClampNeg).toNatClampNeg) < (m.1 94 (m.1 76 (v3).toNatClampNeg).toNatClampNeg) then (m.1 94 (m.1 77 (v3).toNatClampNeg).toNatClampNeg) else (m.1 94 (m.1 76 (v3).toNatClampNeg).toNatClampNeg))) 94 (m.1 77 (v3).toNatClampNeg).toNatClampNeg (if (m.1 94 (m.1 77 (v3).toNatClampNeg).toNatClampNeg) < (m.1 94 (m.1 76 (v3).toNatClampNeg).toNatClampNeg) then (m.1 94 (m.1 77 (v3).toNatClampNeg).toNatClampNeg) else (m.1 94 (m.1 76 (v3).toNatClampNeg).toNatClampNeg)))) [] rfl (sm_on) ?_
        refine w_goto (tgt := 35) dX12_parts_107 rfl ?_
        refine w_wk [true, true, true, true, false] ?_
        exact ih v1 v2 (v3 + (1 : Int32)) (sm_w1 (sm_w1 m 94 (m.1 76 (v3).toNatClampNeg).toNatClampNeg (if (m.1 94 (m.1 77 (v3).toNatClampNeg).toNatClampNeg) < (m.1 94 (m.1 76 (v3).toNatClampNeg).toNatClampNeg) then (m.1 94 (m.1 77 (v3).toNatClampNeg).toNatClampNeg) else (m.1 94 (m.1 76 (v3).toNatClampNeg).toNatClampNeg))) 94 (m.1 77 (v3).toNatClampNeg).toNatClampNeg (if (m.1 94 (m.1 77 (v3).toNatClampNeg).toNatClampNeg) < (m.1 94 (m.1 76 (v3).toNatClampNeg).toNatClampNeg) then (m.1 94 (m.1 77 (v3).toNatClampNeg).toNatClampNeg) else (m.1 94 (m.1 76 (v3).toNatClampNeg).toNatClampNeg))) r hf
set_option maxRecDepth 10000 in
theorem tX12_parts_25 {l : Launch} {al : Bool} : ∀ (n : Nat) (v1 : Int32) (v2 : Int32) (m : sm_S) (r : sm_S), fX12_parts_25 n v1 v2 m = some r → sm_W l mX12_parts 2 al (none, sm_hp r) 25 [.ref 72, .int v1, .int v2, .retAddr 0, .retAddr 0] [] (sm_hp m) := by
  intro n
  induction n with
  | zero =>
    intro v1 v2 m r hf
    unfold fX12_parts_25 at hf
    cases hf
  | succ n ih =>
    intro v1 v2 m r hf
    unfold fX12_parts_25 at hf
    refine w_blk bX12_parts_25 [.ref 72, .int v1, .int v2, .retAddr 0, .retAddr 0] [.int (m.1 72 3), .int v2] (sm_hp m) [] rfl (sm_on) ?_
    refine w_icmp_ge (tgt := 116) dX12_parts_30 rfl (fun hc => ?_) (fun hc => ?_)
    · replace hf := sm_ift hc hf
      obtain rfl := Option.some.inj hf
      exact w_retv dX12_parts_116 rfl
    · replace hf := sm_iff hc hf
      refine w_blk bX12_parts_33 [.ref 72, .int v1, .int v2, .int (0 : Int32), .retAddr 0] [] (sm_hp m) [] rfl (sm_on) ?_
      exact tX12_parts_35 (fX12_parts_25 n) ih sm_fu v1 v2 (0 : Int32) m r hf
set_option maxRecDepth 10000 in
theorem tX12_parts_2 {l : Launch} {al : Bool} : ∀ (n : Nat) (v1 : Int32) (v2 : Int32) (m : sm_S) (r : sm_S), fX12_parts_2 n v1 v2 m = some r → sm_W l mX12_parts 2 al (none, sm_hp r) 2 [.ref 72, .int v1, .int v2, .retAddr 0, .retAddr 0] [] (sm_hp m) := by
  intro n
  induction n with
  | zero =>
    intro v1 v2 m r hf
    unfold fX12_parts_2 at hf
    cases hf
  | succ n ih =>
    intro v1 v2 m r hf
    unfold fX12_parts_2 at hf
    refine w_blk bX12_parts_2 [.ref 72, .int v1, .int v2, .retAddr 0, .retAddr 0] [.int (m.1 72 3), .int v2] (sm_hp m) [] rfl (sm_on) ?_
    refine w_icmp_ge (tgt := 23) dX12_parts_7 rfl (fun hc => ?_) (fun hc => ?_)
    · replace hf := sm_ift hc hf
      refine w_blk bX12_parts_23 [.ref 72, .int v1, .int (0 : Int32), .retAddr 0, .retAddr 0] [] (sm_hp m) [] rfl (sm_on) ?_
      exact tX12_parts_25 sm_fu v1 (0 : Int32) m r hf
    · replace hf := sm_iff hc hf
      replace hf := sm_ck hf
      obtain ⟨q11, hf⟩ := hf
      refine w_blk bX12_parts_10 [.ref 72, .int v1, .int (v2 + (1 : Int32)), .retAddr 0, .retAddr 0] [] (sm_hp (sm_w1 m 94 (v2).toNatClampNeg v2)) [(v2, 10)] rfl (sm_oc q11 (sm_on)) ?_
      refine w_goto (tgt := 2) dX12_parts_20 rfl ?_
      exact ih v1 (v2 + (1 : Int32)) (sm_w1 m 94 (v2).toNatClampNeg v2) r hf
set_option maxRecDepth 10000 in
theorem tX12_parts {l : Launch} {al : Bool} (x1 : Int32) (m : sm_S) (r : sm_S) (hf : fX12_parts x1 m = some r) : sm_Rt l mX12_parts 2 0 0 al al [.ref 72, .int x1] (sm_hp m) (none, sm_hp r) := by
  refine sm_Rt.ofW (L := [.ref 72, .int x1, .retAddr 0, .retAddr 0, .retAddr 0]) (by decide) (Nat.le_of_ble_eq_true rfl) rfl ?_
  unfold fX12_parts at hf
  refine w_blk bX12_parts_0 [.ref 72, .int x1, .int (0 : Int32), .retAddr 0, .retAddr 0] [] (sm_hp m) [] rfl (sm_on) ?_
  exact tX12_parts_2 sm_fu x1 (0 : Int32) m r hf
set_option maxRecDepth 10000 in
theorem tX12_partOfHedges_5 {l : Launch} {al : Bool} : ∀ (n : Nat) (v1 : Int32) (v2 : Int32) (v3 : Int32) (v4 : Int32) (m : sm_S) (r : Int32), fX12_partOfHedges_5 n v1 v2 v3 v4 m = some r → sm_W l mX12_partOfHedges 2 al (some (.int r), sm_hp m) 5 [.ref 72, .int v1, .int v2, .int v3, .int v4] [] (sm_hp m) := by
  intro n
  induction n with
  | zero =>
    intro v1 v2 v3 v4 m r hf
    unfold fX12_partOfHedges_5 at hf
    cases hf
  | succ n ih =>
    intro v1 v2 v3 v4 m r hf
    unfold fX12_partOfHedges_5 at hf
    refine w_blk bX12_partOfHedges_5 [.ref 72, .int v1, .int v2, .int v3, .int v4] [.int (m.1 72 6), .int v4] (sm_hp m) [] rfl (sm_on) ?_
    refine w_icmp_ge (tgt := 56) dX12_partOfHedges_11 rfl (fun hc => ?_) (fun hc => ?_)
    · replace hf := sm_ift hc hf
      refine w_blk bX12_partOfHedges_56 [.ref 72, .int v1, .int v2, .int v3, .int v4] [.int v3] (sm_hp m) [] rfl (sm_on) ?_
      obtain rfl := Option.some.inj hf
      exact w_reti dX12_partOfHedges_57 rfl rfl
    · replace hf := sm_iff hc hf
      refine w_blk bX12_partOfHedges_14 [.ref 72, .int v1, .int v2, .int v3, .int v4] [.int v4, .int v2, .int v3] (sm_hp m) [] rfl (sm_on) ?_
      replace hf := sm_bd hf
      obtain ⟨r2, q1, hf⟩ := hf
      refine w_callS [.int v2, .int v4] [.int v3] (tX12_has v2 v4 m r2 q1) (csX12_144 rfl) dX12_partOfHedges_18 rfl rfl (by decide) (by decide) (Nat.le_of_ble_eq_true rfl) ?_
      show sm_W _ _ _ _ _ 21 [.ref 72, .int v1, .int v2, .int v3, .int v4] [.int r2, .int v3] (sm_hp m)
      refine w_if_eq (tgt := 47) dX12_partOfHedges_21 rfl (fun hc => ?_) (fun hc => ?_)
      · replace hf := sm_ift hc hf
        refine w_blk bX12_partOfHedges_47 [.ref 72, .int v1, .int v2, .int v3, .int v4] [.int (0 : Int32), .int v3] (sm_hp m) [] rfl (sm_on) ?_
        refine w_blk bX12_partOfHedges_48 [.ref 72, .int v1, .int v2, .int (v3 ||| (0 : Int32)), .int (v4 + (1 : Int32))] [] (sm_hp m) [] rfl (sm_on) ?_
        refine w_goto (tgt := 5) dX12_partOfHedges_53 rfl ?_
        exact ih v1 v2 (v3 ||| (0 : Int32)) (v4 + (1 : Int32)) m r hf
      · replace hf := sm_iff hc hf
        replace hf := sm_ck hf
        obtain ⟨q3, hf⟩ := hf
        replace hf := sm_ck hf
        obtain ⟨q4, hf⟩ := hf
        refine w_blk bX12_partOfHedges_24 [.ref 72, .int v1, .int v2, .int v3, .int v4] [.int v1, .int (m.1 94 (m.1 76 (v4).toNatClampNeg).toNatClampNeg), .int v3] (sm_hp m) [(v4, 14), ((m.1 76 (v4).toNatClampNeg), 10)] rfl (sm_oc q3 (sm_oc q4 (sm_on))) ?_
        refine w_icmp_ne (tgt := 47) dX12_partOfHedges_37 rfl (fun hc => ?_) (fun hc => ?_)
        · replace hf := sm_iff hc hf
          refine w_blk bX12_partOfHedges_47 [.ref 72, .int v1, .int v2, .int v3, .int v4] [.int (0 : Int32), .int v3] (sm_hp m) [] rfl (sm_on) ?_
          refine w_blk bX12_partOfHedges_48 [.ref 72, .int v1, .int v2, .int (v3 ||| (0 : Int32)), .int (v4 + (1 : Int32))] [] (sm_hp m) [] rfl (sm_on) ?_
          refine w_goto (tgt := 5) dX12_partOfHedges_53 rfl ?_
          exact ih v1 v2 (v3 ||| (0 : Int32)) (v4 + (1 : Int32)) m r hf
        · replace hf := sm_ift hc hf
          refine w_blk bX12_partOfHedges_40 [.ref 72, .int v1, .int v2, .int v3, .int v4] [.int ((1 : Int32) <<< (v4 &&& 31)), .int v3] (sm_hp m) [] rfl (sm_on) ?_
          refine w_goto (tgt := 48) dX12_partOfHedges_44 rfl ?_
          refine w_blk bX12_partOfHedges_48 [.ref 72, .int v1, .int v2, .int (v3 ||| ((1 : Int32) <<< (v4 &&& 31))), .int (v4 + (1 : Int32))] [] (sm_hp m) [] rfl (sm_on) ?_
          refine w_goto (tgt := 5) dX12_partOfHedges_53 rfl ?_
          exact ih v1 v2 (v3 ||| ((1 : Int32) <<< (v4 &&& 31))) (v4 + (1 : Int32)) m r hf
set_option maxRecDepth 10000 in
theorem tX12_partOfHedges {l : Launch} {al : Bool} (x1 : Int32) (x2 : Int32) (m : sm_S) (r : Int32) (hf : fX12_partOfHedges x1 x2 m = some r) : sm_Rt l mX12_partOfHedges 2 0 0 al al [.ref 72, .int x1, .int x2] (sm_hp m) (some (.int r), sm_hp m) := by
  refine sm_Rt.ofW (L := [.ref 72, .int x1, .int x2, .retAddr 0, .retAddr 0]) (by decide) (Nat.le_of_ble_eq_true rfl) rfl ?_
  unfold fX12_partOfHedges at hf
  refine w_blk bX12_partOfHedges_0 [.ref 72, .int x1, .int x2, .int (0 : Int32), .int (0 : Int32)] [] (sm_hp m) [] rfl (sm_on) ?_
  exact tX12_partOfHedges_5 sm_fu x1 x2 (0 : Int32) (0 : Int32) m r hf
set_option maxRecDepth 10000 in
theorem tX12_men_19 {l : Launch} {al : Bool} : ∀ (n : Nat) (v1 : Int32) (v2 : Int32) (v3 : Int32) (m : sm_S) (r : Int32 × sm_S), fX12_men_19 n v1 v2 v3 m = some r → sm_W l mX12_men 3 al (some (.int r.1), sm_hp r.2) 19 [.ref 72, .int v1, .int v2, .int v3, .retAddr 0] [] (sm_hp m) := by
  intro n
  induction n with
  | zero =>
    intro v1 v2 v3 m r hf
    unfold fX12_men_19 at hf
    cases hf
  | succ n ih =>
    intro v1 v2 v3 m r hf
    unfold fX12_men_19 at hf
    refine w_blk bX12_men_19 [.ref 72, .int v1, .int v2, .int v3, .retAddr 0] [.int (m.1 72 3), .int v3] (sm_hp m) [] rfl (sm_on) ?_
    refine w_icmp_ge (tgt := 70) dX12_men_24 rfl (fun hc => ?_) (fun hc => ?_)
    · replace hf := sm_ift hc hf
      refine w_blk bX12_men_70 [.ref 72, .int v1, .int v2, .int v3, .retAddr 0] [.int v2, .ref 72] (sm_hp (sm_w1 m 72 1 (0 : Int32))) [] rfl (sm_on) ?_
      replace hf := sm_bd hf
      obtain ⟨m6, q5, hf⟩ := hf
      refine w_callV [.int v2] [] (tX12_enters v2 (sm_w1 m 72 1 (0 : Int32)) m6 q5) (cvX12_229 rfl) dX12_men_77 rfl rfl (by decide) (by decide) rfl (Nat.le_of_ble_eq_true rfl) ?_
      show sm_W _ _ _ _ _ 80 [.ref 72, .int v1, .int v2, .int v3, .retAddr 0] [] (sm_hp m6)
      refine w_blk bX12_men_80 [.ref 72, .int v1, .int v2, .int v3, .retAddr 0] [.int v1] (sm_hp m6) [] rfl (sm_on) ?_
      obtain rfl := Option.some.inj hf
      exact w_reti dX12_men_81 rfl rfl
    · replace hf := sm_iff hc hf
      refine w_blk bX12_men_27 [.ref 72, .int v1, .int v2, .int v3, .retAddr 0] [.ref 72, .int v3, .ref 72] (sm_hp m) [] rfl (sm_on) ?_
      replace hf := sm_bd hf
      obtain ⟨r8, q7, hf⟩ := hf
      refine w_callV [] [.int v3, .ref 72] (tX12_allHedges m r8 q7) (cvX12_266 rfl) dX12_men_30 rfl rfl (by decide) (by decide) rfl (Nat.le_of_ble_eq_true rfl) ?_
      show sm_W _ _ _ _ _ 33 [.ref 72, .int v1, .int v2, .int v3, .retAddr 0] [.int r8, .int v3, .ref 72] (sm_hp m)
      replace hf := sm_bd hf
      obtain ⟨r10, q9, hf⟩ := hf
      refine w_callV [.int v3, .int r8] [] (tX12_partOfHedges v3 r8 m r10 q9) (cvX12_280 rfl) dX12_men_33 rfl rfl (by decide) (by decide) rfl (Nat.le_of_ble_eq_true rfl) ?_
      show sm_W _ _ _ _ _ 36 [.ref 72, .int v1, .int v2, .int v3, .retAddr 0] [.int r10] (sm_hp m)
      refine w_blk bX12_men_36 [.ref 72, .int v1, .int v2, .int v3, .int r10] [.int r10] (sm_hp m) [] rfl (sm_on) ?_
      refine w_if_eq (tgt := 64) dX12_men_40 rfl (fun hc => ?_) (fun hc => ?_)
      · replace hf := sm_ift hc hf
        refine w_blk bX12_men_64 [.ref 72, .int v1, .int v2, .int (v3 + (1 : Int32)), .int r10] [] (sm_hp m) [] rfl (sm_on) ?_
        refine w_goto (tgt := 19) dX12_men_67 rfl ?_
        refine w_wk [true, true, true, true, false] ?_
        exact ih v1 v2 (v3 + (1 : Int32)) m r hf
      · replace hf := sm_iff hc hf
        refine w_blk bX12_men_43 [.ref 72, .int v1, .int v2, .int v3, .int r10] [.int r10, .ref 72, .int (1 : Int32), .int v1] (sm_hp m) [] rfl (sm_on) ?_
        replace hf := sm_bd hf
        obtain ⟨r12, q11, hf⟩ := hf
        refine w_callV [.int r10] [.int (1 : Int32), .int v1] (tX12_oddOf r10 m r12 q11) (cvX12_269 rfl) dX12_men_48 rfl rfl (by decide) (by decide) rfl (Nat.le_of_ble_eq_true rfl) ?_
        show sm_W _ _ _ _ _ 51 [.ref 72, .int v1, .int v2, .int v3, .int r10] [.int r12, .int (1 : Int32), .int v1] (sm_hp m)
        replace hf := sm_bd hf
        obtain ⟨r14, q13, hf⟩ := hf
        refine w_callS [.int r12] [.int (1 : Int32), .int v1] (tJ6_bitCount_0f7a4 r12 m r14 q13) (csX12_272 rfl) dX12_men_51 rfl rfl (by decide) (by decide) (Nat.le_of_ble_eq_true rfl) ?_
        show sm_W _ _ _ _ _ 54 [.ref 72, .int v1, .int v2, .int v3, .int r10] [.int r14, .int (1 : Int32), .int v1] (sm_hp m)
        refine w_blk bX12_men_54 [.ref 72, .int (v1 + (if (1 : Int32) < (r14 / (2 : Int32)) then (r14 / (2 : Int32)) else (1 : Int32))), .int (v2 + (1 : Int32)), .int v3, .int r10] [] (sm_hp m) [] rfl (sm_on) ?_
        refine w_blk bX12_men_64 [.ref 72, .int (v1 + (if (1 : Int32) < (r14 / (2 : Int32)) then (r14 / (2 : Int32)) else (1 : Int32))), .int (v2 + (1 : Int32)), .int (v3 + (1 : Int32)), .int r10] [] (sm_hp m) [] rfl (sm_on) ?_
        refine w_goto (tgt := 19) dX12_men_67 rfl ?_
        refine w_wk [true, true, true, true, false] ?_
        exact ih (v1 + (if (1 : Int32) < (r14 / (2 : Int32)) then (r14 / (2 : Int32)) else (1 : Int32))) (v2 + (1 : Int32)) (v3 + (1 : Int32)) m r hf
set_option maxRecDepth 10000 in
theorem tX12_men {l : Launch} {al : Bool} (m : sm_S) (r : Int32 × sm_S) (hf : fX12_men m = some r) : sm_Rt l mX12_men 3 0 0 al al [.ref 72] (sm_hp m) (some (.int r.1), sm_hp r.2) := by
  refine sm_Rt.ofW (L := [.ref 72, .retAddr 0, .retAddr 0, .retAddr 0, .retAddr 0]) (by decide) (Nat.le_of_ble_eq_true rfl) rfl ?_
  unfold fX12_men at hf
  refine w_blk bX12_men_0 [.ref 72, .retAddr 0, .retAddr 0, .retAddr 0, .retAddr 0] [.ref 72, .ref 72] (sm_hp (sm_w1 m 72 0 (0 : Int32))) [] rfl (sm_on) ?_
  replace hf := sm_bd hf
  obtain ⟨r2, q1, hf⟩ := hf
  refine w_callV [] [.ref 72] (tX12_allHedges (sm_w1 m 72 0 (0 : Int32)) r2 q1) (cvX12_266 rfl) dX12_men_7 rfl rfl (by decide) (by decide) rfl (Nat.le_of_ble_eq_true rfl) ?_
  show sm_W _ _ _ _ _ 10 [.ref 72, .retAddr 0, .retAddr 0, .retAddr 0, .retAddr 0] [.int r2, .ref 72] (sm_hp (sm_w1 m 72 0 (0 : Int32)))
  replace hf := sm_bd hf
  obtain ⟨m4, q3, hf⟩ := hf
  refine w_callV [.int r2] [] (tX12_parts r2 (sm_w1 m 72 0 (0 : Int32)) m4 q3) (cvX12_277 rfl) dX12_men_10 rfl rfl (by decide) (by decide) rfl (Nat.le_of_ble_eq_true rfl) ?_
  show sm_W _ _ _ _ _ 13 [.ref 72, .retAddr 0, .retAddr 0, .retAddr 0, .retAddr 0] [] (sm_hp m4)
  refine w_blk bX12_men_13 [.ref 72, .int (0 : Int32), .int (0 : Int32), .int (0 : Int32), .retAddr 0] [] (sm_hp m4) [] rfl (sm_on) ?_
  exact tX12_men_19 sm_fu (0 : Int32) (0 : Int32) (0 : Int32) m4 r hf
set_option maxRecDepth 10000 in
theorem tX12_canTrail {l : Launch} {al : Bool} (x1 : Int32) (x2 : Int32) (m : sm_S) (r : Int32 × sm_S) (hf : fX12_canTrail x1 x2 m = some r) : sm_Rt l mX12_canTrail 3 0 0 al al [.ref 72, .int x1, .int x2] (sm_hp m) (some (.int r.1), sm_hp r.2) := by
  refine sm_Rt.ofW (L := [.ref 72, .int x1, .int x2, .retAddr 0]) (by decide) (Nat.le_of_ble_eq_true rfl) rfl ?_
  unfold fX12_canTrail at hf
  refine w_blk bX12_canTrail_0 [.ref 72, .int x1, .int x2, .retAddr 0] [.int x1] (sm_hp m) [] rfl (sm_on) ?_
  refine w_if_ne (tgt := 6) dX12_canTrail_1 rfl (fun hc => ?_) (fun hc => ?_)
  · replace hf := sm_iff hc hf
    refine w_blk bX12_canTrail_6 [.ref 72, .int x1, .int x2, .retAddr 0] [.int x1, .ref 72] (sm_hp m) [] rfl (sm_on) ?_
    replace hf := sm_bd hf
    obtain ⟨m2, q1, hf⟩ := hf
    refine w_callV [.int x1] [] (tX12_parts x1 m m2 q1) (cvX12_277 rfl) dX12_canTrail_8 rfl rfl (by decide) (by decide) rfl (Nat.le_of_ble_eq_true rfl) ?_
    show sm_W _ _ _ _ _ 11 [.ref 72, .int x1, .int x2, .retAddr 0] [] (sm_hp m2)
    replace hf := sm_ck hf
    obtain ⟨q3, hf⟩ := hf
    refine w_blk bX12_canTrail_11 [.ref 72, .int x1, .int x2, .retAddr 0] [.int x1, .int (m2.1 94 (x2).toNatClampNeg), .ref 72] (sm_hp m2) [(x2, 10)] rfl (sm_oc q3 (sm_on)) ?_
    replace hf := sm_bd hf
    obtain ⟨r5, q4, hf⟩ := hf
    refine w_callV [.int (m2.1 94 (x2).toNatClampNeg), .int x1] [] (tX12_partOfHedges (m2.1 94 (x2).toNatClampNeg) x1 m2 r5 q4) (cvX12_280 rfl) dX12_canTrail_19 rfl rfl (by decide) (by decide) rfl (Nat.le_of_ble_eq_true rfl) ?_
    show sm_W _ _ _ _ _ 22 [.ref 72, .int x1, .int x2, .retAddr 0] [.int r5] (sm_hp m2)
    refine w_blk bX12_canTrail_22 [.ref 72, .int x1, .int x2, .retAddr 0] [.int x1, .int r5] (sm_hp m2) [] rfl (sm_on) ?_
    refine w_icmp_eq (tgt := 28) dX12_canTrail_23 rfl (fun hc => ?_) (fun hc => ?_)
    · replace hf := sm_ift hc hf
      refine w_blk bX12_canTrail_28 [.ref 72, .int x1, .int x2, .retAddr 0] [.int x1, .ref 72] (sm_hp m2) [] rfl (sm_on) ?_
      replace hf := sm_bd hf
      obtain ⟨r7, q6, hf⟩ := hf
      refine w_callV [.int x1] [] (tX12_oddOf x1 m2 r7 q6) (cvX12_269 rfl) dX12_canTrail_30 rfl rfl (by decide) (by decide) rfl (Nat.le_of_ble_eq_true rfl) ?_
      show sm_W _ _ _ _ _ 33 [.ref 72, .int x1, .int x2, .retAddr 0] [.int r7] (sm_hp m2)
      refine w_blk bX12_canTrail_33 [.ref 72, .int x1, .int x2, .int r7] [.int r7] (sm_hp m2) [] rfl (sm_on) ?_
      refine w_if_eq (tgt := 54) dX12_canTrail_35 rfl (fun hc => ?_) (fun hc => ?_)
      · replace hf := sm_ift hc hf
        refine w_blk bX12_canTrail_54 [.ref 72, .int x1, .int x2, .int r7] [.int (1 : Int32)] (sm_hp m2) [] rfl (sm_on) ?_
        refine w_goto (tgt := 59) dX12_canTrail_55 rfl ?_
        obtain rfl := Option.some.inj hf
        exact w_reti dX12_canTrail_59 rfl sm_nb1
      · replace hf := sm_iff hc hf
        refine w_blk bX12_canTrail_38 [.ref 72, .int x1, .int x2, .int r7] [.int r7] (sm_hp m2) [] rfl (sm_on) ?_
        replace hf := sm_bd hf
        obtain ⟨r9, q8, hf⟩ := hf
        refine w_callS [.int r7] [] (tJ6_bitCount_0f7a4 r7 m2 r9 q8) (csX12_272 rfl) dX12_canTrail_39 rfl rfl (by decide) (by decide) (Nat.le_of_ble_eq_true rfl) ?_
        show sm_W _ _ _ _ _ 42 [.ref 72, .int x1, .int x2, .int r7] [.int r9] (sm_hp m2)
        refine w_blk bX12_canTrail_42 [.ref 72, .int x1, .int x2, .int r7] [.int (2 : Int32), .int r9] (sm_hp m2) [] rfl (sm_on) ?_
        refine w_icmp_ne (tgt := 58) dX12_canTrail_43 rfl (fun hc => ?_) (fun hc => ?_)
        · replace hf := sm_iff hc hf
          refine w_blk bX12_canTrail_58 [.ref 72, .int x1, .int x2, .int r7] [.int (0 : Int32)] (sm_hp m2) [] rfl (sm_on) ?_
          obtain rfl := Option.some.inj hf
          exact w_reti dX12_canTrail_59 rfl sm_nb0
        · replace hf := sm_ift hc hf
          refine w_blk bX12_canTrail_46 [.ref 72, .int x1, .int x2, .int r7] [.int x2, .int r7] (sm_hp m2) [] rfl (sm_on) ?_
          replace hf := sm_bd hf
          obtain ⟨r11, q10, hf⟩ := hf
          refine w_callS [.int r7, .int x2] [] (tX12_has r7 x2 m2 r11 q10) (csX12_144 rfl) dX12_canTrail_48 rfl rfl (by decide) (by decide) (Nat.le_of_ble_eq_true rfl) ?_
          show sm_W _ _ _ _ _ 51 [.ref 72, .int x1, .int x2, .int r7] [.int r11] (sm_hp m2)
          refine w_if_eq (tgt := 58) dX12_canTrail_51 rfl (fun hc => ?_) (fun hc => ?_)
          · replace hf := sm_ift hc hf
            refine w_blk bX12_canTrail_58 [.ref 72, .int x1, .int x2, .int r7] [.int (0 : Int32)] (sm_hp m2) [] rfl (sm_on) ?_
            obtain rfl := Option.some.inj hf
            exact w_reti dX12_canTrail_59 rfl sm_nb0
          · replace hf := sm_iff hc hf
            refine w_blk bX12_canTrail_54 [.ref 72, .int x1, .int x2, .int r7] [.int (1 : Int32)] (sm_hp m2) [] rfl (sm_on) ?_
            refine w_goto (tgt := 59) dX12_canTrail_55 rfl ?_
            obtain rfl := Option.some.inj hf
            exact w_reti dX12_canTrail_59 rfl sm_nb1
    · replace hf := sm_iff hc hf
      refine w_blk bX12_canTrail_26 [.ref 72, .int x1, .int x2, .retAddr 0] [.int (0 : Int32)] (sm_hp m2) [] rfl (sm_on) ?_
      obtain rfl := Option.some.inj hf
      exact w_reti dX12_canTrail_27 rfl sm_nb0
  · replace hf := sm_ift hc hf
    refine w_blk bX12_canTrail_4 [.ref 72, .int x1, .int x2, .retAddr 0] [.int (1 : Int32)] (sm_hp m) [] rfl (sm_on) ?_
    obtain rfl := Option.some.inj hf
    exact w_reti dX12_canTrail_5 rfl sm_nb1
set_option maxRecDepth 10000 in
theorem tX12_trail_49 {l : Launch} {al : Bool} (k42 : Int32 → Int32 → Int32 → sm_S → Option (Int32 × sm_S)) (hk42 : ∀ (v2 : Int32) (v3 : Int32) (v4 : Int32) (m : sm_S) (r : Int32 × sm_S), k42 v2 v3 v4 m = some r → sm_W l mX12_trail 4 al (some (.int r.1), sm_hp r.2) 42 [.ref 72, .retAddr 0, .int v2, .int v3, .int v4, .retAddr 0] [] (sm_hp m)) : ∀ (n : Nat) (v2 : Int32) (v3 : Int32) (v4 : Int32) (v5 : Int32) (m : sm_S) (r : Int32 × sm_S), fX12_trail_49 k42 n v2 v3 v4 v5 m = some r → sm_W l mX12_trail 4 al (some (.int r.1), sm_hp r.2) 49 [.ref 72, .retAddr 0, .int v2, .int v3, .int v4, .int v5] [] (sm_hp m) := by
  intro n
  induction n with
  | zero =>
    intro v2 v3 v4 v5 m r hf
    unfold fX12_trail_49 at hf
    cases hf
  | succ n ih =>
    intro v2 v3 v4 v5 m r hf
    unfold fX12_trail_49 at hf
    refine w_blk bX12_trail_49 [.ref 72, .retAddr 0, .int v2, .int v3, .int v4, .int v5] [.int v5, .int v2] (sm_hp m) [] rfl (sm_on) ?_
    replace hf := sm_bd hf
    obtain ⟨r8, q7, hf⟩ := hf
    refine w_callS [.int v2, .int v5] [] (tX12_has v2 v5 m r8 q7) (csX12_144 rfl) dX12_trail_52 rfl rfl (by decide) (by decide) (Nat.le_of_ble_eq_true rfl) ?_
    show sm_W _ _ _ _ _ 55 [.ref 72, .retAddr 0, .int v2, .int v3, .int v4, .int v5] [.int r8] (sm_hp m)
    refine w_if_eq (tgt := 90) dX12_trail_55 rfl (fun hc => ?_) (fun hc => ?_)
    · replace hf := sm_ift hc hf
      refine w_blk bX12_trail_90 [.ref 72, .retAddr 0, .int v2, .int v3, .int v4, .int (v5 + (1 : Int32))] [] (sm_hp m) [] rfl (sm_on) ?_
      refine w_goto (tgt := 49) dX12_trail_93 rfl ?_
      exact ih v2 v3 v4 (v5 + (1 : Int32)) m r hf
    · replace hf := sm_iff hc hf
      refine w_blk bX12_trail_58 [.ref 72, .retAddr 0, .int v2, .int v3, .int v4, .int v5] [.int v3, .int v5, .ref 72] (sm_hp m) [] rfl (sm_on) ?_
      replace hf := sm_bd hf
      obtain ⟨r10, q9, hf⟩ := hf
      refine w_callV [.int v5, .int v3] [] (tX12_isEnd v5 v3 m r10 q9) (cvX12_180 rfl) dX12_trail_62 rfl rfl (by decide) (by decide) rfl (Nat.le_of_ble_eq_true rfl) ?_
      show sm_W _ _ _ _ _ 65 [.ref 72, .retAddr 0, .int v2, .int v3, .int v4, .int v5] [.int r10] (sm_hp m)
      refine w_if_eq (tgt := 90) dX12_trail_65 rfl (fun hc => ?_) (fun hc => ?_)
      · replace hf := sm_ift hc hf
        refine w_blk bX12_trail_90 [.ref 72, .retAddr 0, .int v2, .int v3, .int v4, .int (v5 + (1 : Int32))] [] (sm_hp m) [] rfl (sm_on) ?_
        refine w_goto (tgt := 49) dX12_trail_93 rfl ?_
        exact ih v2 v3 v4 (v5 + (1 : Int32)) m r hf
      · replace hf := sm_iff hc hf
        refine w_blk bX12_trail_68 [.ref 72, .retAddr 0, .int v2, .int v3, .int v4, .int v5] [.int v3, .int v5, .ref 72, .int (v2 &&& (((1 : Int32) <<< (v5 &&& 31)) ^^^ (-1 : Int32))), .ref 72] (sm_hp m) [] rfl (sm_on) ?_
        replace hf := sm_bd hf
        obtain ⟨r12, q11, hf⟩ := hf
        refine w_callV [.int v5, .int v3] [.int (v2 &&& (((1 : Int32) <<< (v5 &&& 31)) ^^^ (-1 : Int32))), .ref 72] (tX12_endOf v5 v3 m r12 q11) (cvX12_201 rfl) dX12_trail_81 rfl rfl (by decide) (by decide) rfl (Nat.le_of_ble_eq_true rfl) ?_
        show sm_W _ _ _ _ _ 84 [.ref 72, .retAddr 0, .int v2, .int v3, .int v4, .int v5] [.int r12, .int (v2 &&& (((1 : Int32) <<< (v5 &&& 31)) ^^^ (-1 : Int32))), .ref 72] (sm_hp m)
        replace hf := sm_bd hf
        obtain ⟨r14, q13, hf⟩ := hf
        refine w_callV [.int (v2 &&& (((1 : Int32) <<< (v5 &&& 31)) ^^^ (-1 : Int32))), .int r12] [] (tX12_canTrail (v2 &&& (((1 : Int32) <<< (v5 &&& 31)) ^^^ (-1 : Int32))) r12 m r14 q13) (cvX12_283 rfl) dX12_trail_84 rfl rfl (by decide) (by decide) rfl (Nat.le_of_ble_eq_true rfl) ?_
        show sm_W _ _ _ _ _ 87 [.ref 72, .retAddr 0, .int v2, .int v3, .int v4, .int v5] [.int r14.1] (sm_hp r14.2)
        refine w_if_ne (tgt := 96) dX12_trail_87 rfl (fun hc => ?_) (fun hc => ?_)
        · replace hf := sm_iff hc hf
          refine w_blk bX12_trail_96 [.ref 72, .retAddr 0, .int v2, .int v3, .int v4, .int v5] [.int v5, .ref 72] (sm_hp r14.2) [] rfl (sm_on) ?_
          replace hf := sm_bd hf
          obtain ⟨m16, q15, hf⟩ := hf
          refine w_callV [.int v5] [] (tX12_enters v5 r14.2 m16 q15) (cvX12_229 rfl) dX12_trail_99 rfl rfl (by decide) (by decide) rfl (Nat.le_of_ble_eq_true rfl) ?_
          show sm_W _ _ _ _ _ 102 [.ref 72, .retAddr 0, .int v2, .int v3, .int v4, .int v5] [] (sm_hp m16)
          refine w_blk bX12_trail_102 [.ref 72, .retAddr 0, .int v2, .int v3, .int v4, .int v5] [.int v3, .int v5, .ref 72, .int v4] (sm_hp m16) [] rfl (sm_on) ?_
          replace hf := sm_bd hf
          obtain ⟨r18, q17, hf⟩ := hf
          refine w_callV [.int v5, .int v3] [.int v4] (tX12_minutesFrom v5 v3 m16 r18 q17) (cvX12_186 rfl) dX12_trail_108 rfl rfl (by decide) (by decide) rfl (Nat.le_of_ble_eq_true rfl) ?_
          show sm_W _ _ _ _ _ 111 [.ref 72, .retAddr 0, .int v2, .int v3, .int v4, .int v5] [.int r18, .int v4] (sm_hp m16)
          refine w_blk bX12_trail_111 [.ref 72, .retAddr 0, .int (v2 &&& (((1 : Int32) <<< (v5 &&& 31)) ^^^ (-1 : Int32))), .int v3, .int (v4 + r18), .int v5] [.int v3, .int v5, .ref 72] (sm_hp m16) [] rfl (sm_on) ?_
          replace hf := sm_bd hf
          obtain ⟨r20, q19, hf⟩ := hf
          refine w_callV [.int v5, .int v3] [] (tX12_endOf v5 v3 m16 r20 q19) (cvX12_201 rfl) dX12_trail_127 rfl rfl (by decide) (by decide) rfl (Nat.le_of_ble_eq_true rfl) ?_
          show sm_W _ _ _ _ _ 130 [.ref 72, .retAddr 0, .int (v2 &&& (((1 : Int32) <<< (v5 &&& 31)) ^^^ (-1 : Int32))), .int v3, .int (v4 + r18), .int v5] [.int r20] (sm_hp m16)
          refine w_blk bX12_trail_130 [.ref 72, .retAddr 0, .int (v2 &&& (((1 : Int32) <<< (v5 &&& 31)) ^^^ (-1 : Int32))), .int r20, .int (v4 + r18), .int v5] [] (sm_hp m16) [] rfl (sm_on) ?_
          refine w_goto (tgt := 42) dX12_trail_131 rfl ?_
          refine w_wk [true, false, true, true, true, false] ?_
          exact hk42 (v2 &&& (((1 : Int32) <<< (v5 &&& 31)) ^^^ (-1 : Int32))) r20 (v4 + r18) m16 r hf
        · replace hf := sm_ift hc hf
          refine w_blk bX12_trail_90 [.ref 72, .retAddr 0, .int v2, .int v3, .int v4, .int (v5 + (1 : Int32))] [] (sm_hp r14.2) [] rfl (sm_on) ?_
          refine w_goto (tgt := 49) dX12_trail_93 rfl ?_
          exact ih v2 v3 v4 (v5 + (1 : Int32)) r14.2 r hf
set_option maxRecDepth 10000 in
theorem tX12_trail_42 {l : Launch} {al : Bool} : ∀ (n : Nat) (v2 : Int32) (v3 : Int32) (v4 : Int32) (m : sm_S) (r : Int32 × sm_S), fX12_trail_42 n v2 v3 v4 m = some r → sm_W l mX12_trail 4 al (some (.int r.1), sm_hp r.2) 42 [.ref 72, .retAddr 0, .int v2, .int v3, .int v4, .retAddr 0] [] (sm_hp m) := by
  intro n
  induction n with
  | zero =>
    intro v2 v3 v4 m r hf
    unfold fX12_trail_42 at hf
    cases hf
  | succ n ih =>
    intro v2 v3 v4 m r hf
    unfold fX12_trail_42 at hf
    refine w_blk bX12_trail_42 [.ref 72, .retAddr 0, .int v2, .int v3, .int v4, .retAddr 0] [.int v2] (sm_hp m) [] rfl (sm_on) ?_
    refine w_if_eq (tgt := 134) dX12_trail_43 rfl (fun hc => ?_) (fun hc => ?_)
    · replace hf := sm_ift hc hf
      refine w_blk bX12_trail_134 [.ref 72, .retAddr 0, .int v2, .int v3, .int v4, .retAddr 0] [.int v4] (sm_hp m) [] rfl (sm_on) ?_
      obtain rfl := Option.some.inj hf
      exact w_reti dX12_trail_136 rfl rfl
    · replace hf := sm_iff hc hf
      refine w_blk bX12_trail_46 [.ref 72, .retAddr 0, .int v2, .int v3, .int v4, .int (0 : Int32)] [] (sm_hp m) [] rfl (sm_on) ?_
      exact tX12_trail_49 (fX12_trail_42 n) ih sm_fu v2 v3 v4 (0 : Int32) m r hf
set_option maxRecDepth 10000 in
theorem tX12_trail {l : Launch} {al : Bool} (x1 : Int32) (m : sm_S) (r : Int32 × sm_S) (hf : fX12_trail x1 m = some r) : sm_Rt l mX12_trail 4 0 0 al al [.ref 72, .int x1] (sm_hp m) (some (.int r.1), sm_hp r.2) := by
  refine sm_Rt.ofW (L := [.ref 72, .int x1, .retAddr 0, .retAddr 0, .retAddr 0, .retAddr 0]) (by decide) (Nat.le_of_ble_eq_true rfl) rfl ?_
  unfold fX12_trail at hf
  refine w_blk bX12_trail_0 [.ref 72, .int x1, .retAddr 0, .retAddr 0, .retAddr 0, .retAddr 0] [.int x1, .ref 72] (sm_hp (sm_w1 m 72 0 (0 : Int32))) [] rfl (sm_on) ?_
  replace hf := sm_bd hf
  obtain ⟨r2, q1, hf⟩ := hf
  refine w_callV [.int x1] [] (tX12_isCorner x1 (sm_w1 m 72 0 (0 : Int32)) r2 q1) (cvX12_157 rfl) dX12_trail_7 rfl rfl (by decide) (by decide) rfl (Nat.le_of_ble_eq_true rfl) ?_
  show sm_W _ _ _ _ _ 10 [.ref 72, .int x1, .retAddr 0, .retAddr 0, .retAddr 0, .retAddr 0] [.int r2] (sm_hp (sm_w1 m 72 0 (0 : Int32)))
  refine w_if_ne (tgt := 15) dX12_trail_10 rfl (fun hc => ?_) (fun hc => ?_)
  · replace hf := sm_iff hc hf
    refine w_blk bX12_trail_15 [.ref 72, .int x1, .retAddr 0, .retAddr 0, .retAddr 0, .retAddr 0] [.ref 72] (sm_hp (sm_w1 m 72 0 (0 : Int32))) [] rfl (sm_on) ?_
    replace hf := sm_bd hf
    obtain ⟨r4, q3, hf⟩ := hf
    refine w_callV [] [] (tX12_allHedges (sm_w1 m 72 0 (0 : Int32)) r4 q3) (cvX12_266 rfl) dX12_trail_16 rfl rfl (by decide) (by decide) rfl (Nat.le_of_ble_eq_true rfl) ?_
    show sm_W _ _ _ _ _ 19 [.ref 72, .int x1, .retAddr 0, .retAddr 0, .retAddr 0, .retAddr 0] [.int r4] (sm_hp (sm_w1 m 72 0 (0 : Int32)))
    refine w_blk bX12_trail_19 [.ref 72, .int x1, .int r4, .retAddr 0, .retAddr 0, .retAddr 0] [.int x1, .int r4, .ref 72] (sm_hp (sm_w1 m 72 0 (0 : Int32))) [] rfl (sm_on) ?_
    replace hf := sm_bd hf
    obtain ⟨r6, q5, hf⟩ := hf
    refine w_callV [.int r4, .int x1] [] (tX12_canTrail r4 x1 (sm_w1 m 72 0 (0 : Int32)) r6 q5) (cvX12_283 rfl) dX12_trail_23 rfl rfl (by decide) (by decide) rfl (Nat.le_of_ble_eq_true rfl) ?_
    show sm_W _ _ _ _ _ 26 [.ref 72, .int x1, .int r4, .retAddr 0, .retAddr 0, .retAddr 0] [.int r6.1] (sm_hp r6.2)
    refine w_if_ne (tgt := 32) dX12_trail_26 rfl (fun hc => ?_) (fun hc => ?_)
    · replace hf := sm_iff hc hf
      refine w_blk bX12_trail_32 [.ref 72, .int x1, .int r4, .int x1, .int (0 : Int32), .retAddr 0] [] (sm_hp (sm_w1 r6.2 72 1 (0 : Int32))) [] rfl (sm_on) ?_
      refine w_wk [true, false, true, true, true, false] ?_
      exact tX12_trail_42 sm_fu r4 x1 (0 : Int32) (sm_w1 r6.2 72 1 (0 : Int32)) r hf
    · replace hf := sm_ift hc hf
      refine w_blk bX12_trail_29 [.ref 72, .int x1, .int r4, .retAddr 0, .retAddr 0, .retAddr 0] [.int (-2 : Int32)] (sm_hp r6.2) [] rfl (sm_on) ?_
      obtain rfl := Option.some.inj hf
      exact w_reti dX12_trail_31 rfl rfl
  · replace hf := sm_ift hc hf
    refine w_blk bX12_trail_13 [.ref 72, .int x1, .retAddr 0, .retAddr 0, .retAddr 0, .retAddr 0] [.int (-1 : Int32)] (sm_hp (sm_w1 m 72 0 (0 : Int32))) [] rfl (sm_on) ?_
    obtain rfl := Option.some.inj hf
    exact w_reti dX12_trail_14 rfl rfl
set_option maxRecDepth 10000 in
theorem tX12_hangTogether_12 {l : Launch} {al : Bool} : ∀ (n : Nat) (v1 : Int32) (v2 : Int32) (m : sm_S) (r : Int32 × sm_S), fX12_hangTogether_12 n v1 v2 m = some r → sm_W l mX12_hangTogether 3 al (some (.int r.1), sm_hp r.2) 12 [.ref 72, .int v1, .int v2] [] (sm_hp m) := by
  intro n
  induction n with
  | zero =>
    intro v1 v2 m r hf
    unfold fX12_hangTogether_12 at hf
    cases hf
  | succ n ih =>
    intro v1 v2 m r hf
    unfold fX12_hangTogether_12 at hf
    refine w_blk bX12_hangTogether_12 [.ref 72, .int v1, .int v2] [.int (m.1 72 6), .int v2] (sm_hp m) [] rfl (sm_on) ?_
    refine w_icmp_ge (tgt := 61) dX12_hangTogether_17 rfl (fun hc => ?_) (fun hc => ?_)
    · replace hf := sm_ift hc hf
      refine w_blk bX12_hangTogether_61 [.ref 72, .int v1, .int v2] [.int v1] (sm_hp m) [] rfl (sm_on) ?_
      replace hf := sm_ck hf
      obtain ⟨q5, hf⟩ := hf
      obtain rfl := Option.some.inj hf
      exact w_reti dX12_hangTogether_62 rfl q5
    · replace hf := sm_iff hc hf
      refine w_blk bX12_hangTogether_20 [.ref 72, .int v1, .int v2] [.int v1] (sm_hp m) [] rfl (sm_on) ?_
      refine w_if_eq (tgt := 53) dX12_hangTogether_21 rfl (fun hc => ?_) (fun hc => ?_)
      · replace hf := sm_ift hc hf
        refine w_blk bX12_hangTogether_53 [.ref 72, .int v1, .int v2] [.int (0 : Int32)] (sm_hp m) [] rfl (sm_on) ?_
        refine w_blk bX12_hangTogether_54 [.ref 72, .int (0 : Int32), .int (v2 + (1 : Int32))] [] (sm_hp m) [] rfl (sm_on) ?_
        refine w_goto (tgt := 12) dX12_hangTogether_58 rfl ?_
        exact ih (0 : Int32) (v2 + (1 : Int32)) m r hf
      · replace hf := sm_iff hc hf
        replace hf := sm_ck hf
        obtain ⟨q6, hf⟩ := hf
        replace hf := sm_ck hf
        obtain ⟨q7, hf⟩ := hf
        replace hf := sm_ck hf
        obtain ⟨q8, hf⟩ := hf
        refine w_blk bX12_hangTogether_24 [.ref 72, .int v1, .int v2] [.int (m.1 94 (m.1 76 0).toNatClampNeg), .int (m.1 94 (m.1 76 (v2).toNatClampNeg).toNatClampNeg)] (sm_hp m) [(v2, 14), ((m.1 76 (v2).toNatClampNeg), 10), ((0 : Int32), 14), ((m.1 76 0), 10)] rfl (sm_oc q6 (sm_oc q7 (sm_oc (by decide) (sm_oc q8 (sm_on))))) ?_
        refine w_icmp_ne (tgt := 53) dX12_hangTogether_46 rfl (fun hc => ?_) (fun hc => ?_)
        · replace hf := sm_iff hc hf
          refine w_blk bX12_hangTogether_53 [.ref 72, .int v1, .int v2] [.int (0 : Int32)] (sm_hp m) [] rfl (sm_on) ?_
          refine w_blk bX12_hangTogether_54 [.ref 72, .int (0 : Int32), .int (v2 + (1 : Int32))] [] (sm_hp m) [] rfl (sm_on) ?_
          refine w_goto (tgt := 12) dX12_hangTogether_58 rfl ?_
          exact ih (0 : Int32) (v2 + (1 : Int32)) m r hf
        · replace hf := sm_ift hc hf
          refine w_blk bX12_hangTogether_49 [.ref 72, .int v1, .int v2] [.int (1 : Int32)] (sm_hp m) [] rfl (sm_on) ?_
          refine w_goto (tgt := 54) dX12_hangTogether_50 rfl ?_
          refine w_blk bX12_hangTogether_54 [.ref 72, .int (1 : Int32), .int (v2 + (1 : Int32))] [] (sm_hp m) [] rfl (sm_on) ?_
          refine w_goto (tgt := 12) dX12_hangTogether_58 rfl ?_
          exact ih (1 : Int32) (v2 + (1 : Int32)) m r hf
set_option maxRecDepth 10000 in
theorem tX12_hangTogether {l : Launch} {al : Bool} (m : sm_S) (r : Int32 × sm_S) (hf : fX12_hangTogether m = some r) : sm_Rt l mX12_hangTogether 3 0 0 al al [.ref 72] (sm_hp m) (some (.int r.1), sm_hp r.2) := by
  refine sm_Rt.ofW (L := [.ref 72, .retAddr 0, .retAddr 0]) (by decide) (Nat.le_of_ble_eq_true rfl) rfl ?_
  unfold fX12_hangTogether at hf
  refine w_blk bX12_hangTogether_0 [.ref 72, .retAddr 0, .retAddr 0] [.ref 72, .ref 72] (sm_hp m) [] rfl (sm_on) ?_
  replace hf := sm_bd hf
  obtain ⟨r2, q1, hf⟩ := hf
  refine w_callV [] [.ref 72] (tX12_allHedges m r2 q1) (cvX12_266 rfl) dX12_hangTogether_2 rfl rfl (by decide) (by decide) rfl (Nat.le_of_ble_eq_true rfl) ?_
  show sm_W _ _ _ _ _ 5 [.ref 72, .retAddr 0, .retAddr 0] [.int r2, .ref 72] (sm_hp m)
  replace hf := sm_bd hf
  obtain ⟨m4, q3, hf⟩ := hf
  refine w_callV [.int r2] [] (tX12_parts r2 m m4 q3) (cvX12_277 rfl) dX12_hangTogether_5 rfl rfl (by decide) (by decide) rfl (Nat.le_of_ble_eq_true rfl) ?_
  show sm_W _ _ _ _ _ 8 [.ref 72, .retAddr 0, .retAddr 0] [] (sm_hp m4)
  refine w_blk bX12_hangTogether_8 [.ref 72, .int (1 : Int32), .int (1 : Int32)] [] (sm_hp m4) [] rfl (sm_on) ?_
  exact tX12_hangTogether_12 sm_fu (1 : Int32) (1 : Int32) m4 r hf
set_option maxRecDepth 10000 in
theorem tX12_isEven_87 {l : Launch} {al : Bool} : ∀ (n : Nat) (v2 : Int32) (v3 : Int32) (m : sm_S) (r : Int32 × sm_S), fX12_isEven_87 n v2 v3 m = some r → sm_W l mX12_isEven 2 al (some (.int r.1), sm_hp r.2) 87 [.ref 72, .retAddr 0, .int v2, .int v3] [] (sm_hp m) := by
  intro n
  induction n with
  | zero =>
    intro v2 v3 m r hf
    unfold fX12_isEven_87 at hf
    cases hf
  | succ n ih =>
    intro v2 v3 m r hf
    unfold fX12_isEven_87 at hf
    refine w_blk bX12_isEven_87 [.ref 72, .retAddr 0, .int v2, .int v3] [.int (m.1 72 3), .int v3] (sm_hp m) [] rfl (sm_on) ?_
    refine w_icmp_ge (tgt := 120) dX12_isEven_92 rfl (fun hc => ?_) (fun hc => ?_)
    · replace hf := sm_ift hc hf
      refine w_blk bX12_isEven_120 [.ref 72, .retAddr 0, .int v2, .int v3] [.int v2] (sm_hp m) [] rfl (sm_on) ?_
      replace hf := sm_ck hf
      obtain ⟨q1, hf⟩ := hf
      obtain rfl := Option.some.inj hf
      exact w_reti dX12_isEven_121 rfl q1
    · replace hf := sm_iff hc hf
      refine w_blk bX12_isEven_95 [.ref 72, .retAddr 0, .int v2, .int v3] [.int v2] (sm_hp m) [] rfl (sm_on) ?_
      refine w_if_eq (tgt := 112) dX12_isEven_96 rfl (fun hc => ?_) (fun hc => ?_)
      · replace hf := sm_ift hc hf
        refine w_blk bX12_isEven_112 [.ref 72, .retAddr 0, .int v2, .int v3] [.int (0 : Int32)] (sm_hp m) [] rfl (sm_on) ?_
        refine w_blk bX12_isEven_113 [.ref 72, .retAddr 0, .int (0 : Int32), .int (v3 + (1 : Int32))] [] (sm_hp m) [] rfl (sm_on) ?_
        refine w_goto (tgt := 87) dX12_isEven_117 rfl ?_
        exact ih (0 : Int32) (v3 + (1 : Int32)) m r hf
      · replace hf := sm_iff hc hf
        replace hf := sm_ck hf
        obtain ⟨q2, hf⟩ := hf
        refine w_blk bX12_isEven_99 [.ref 72, .retAddr 0, .int v2, .int v3] [.int (m.1 95 (v3).toNatClampNeg)] (sm_hp m) [(v3, 10)] rfl (sm_oc q2 (sm_on)) ?_
        refine w_if_ne (tgt := 112) dX12_isEven_105 rfl (fun hc => ?_) (fun hc => ?_)
        · replace hf := sm_iff hc hf
          refine w_blk bX12_isEven_112 [.ref 72, .retAddr 0, .int v2, .int v3] [.int (0 : Int32)] (sm_hp m) [] rfl (sm_on) ?_
          refine w_blk bX12_isEven_113 [.ref 72, .retAddr 0, .int (0 : Int32), .int (v3 + (1 : Int32))] [] (sm_hp m) [] rfl (sm_on) ?_
          refine w_goto (tgt := 87) dX12_isEven_117 rfl ?_
          exact ih (0 : Int32) (v3 + (1 : Int32)) m r hf
        · replace hf := sm_ift hc hf
          refine w_blk bX12_isEven_108 [.ref 72, .retAddr 0, .int v2, .int v3] [.int (1 : Int32)] (sm_hp m) [] rfl (sm_on) ?_
          refine w_goto (tgt := 113) dX12_isEven_109 rfl ?_
          refine w_blk bX12_isEven_113 [.ref 72, .retAddr 0, .int (1 : Int32), .int (v3 + (1 : Int32))] [] (sm_hp m) [] rfl (sm_on) ?_
          refine w_goto (tgt := 87) dX12_isEven_117 rfl ?_
          exact ih (1 : Int32) (v3 + (1 : Int32)) m r hf
set_option maxRecDepth 10000 in
theorem tX12_isEven_25 {l : Launch} {al : Bool} : ∀ (n : Nat) (v1 : Int32) (v2 : Int32) (m : sm_S) (r : Int32 × sm_S), fX12_isEven_25 n v1 v2 m = some r → sm_W l mX12_isEven 2 al (some (.int r.1), sm_hp r.2) 25 [.ref 72, .int v1, .int v2, .retAddr 0] [] (sm_hp m) := by
  intro n
  induction n with
  | zero =>
    intro v1 v2 m r hf
    unfold fX12_isEven_25 at hf
    cases hf
  | succ n ih =>
    intro v1 v2 m r hf
    unfold fX12_isEven_25 at hf
    refine w_blk bX12_isEven_25 [.ref 72, .int v1, .int v2, .retAddr 0] [.int (m.1 72 6), .int v2] (sm_hp m) [] rfl (sm_on) ?_
    refine w_icmp_ge (tgt := 83) dX12_isEven_30 rfl (fun hc => ?_) (fun hc => ?_)
    · replace hf := sm_ift hc hf
      refine w_blk bX12_isEven_83 [.ref 72, .int v1, .int (1 : Int32), .int (0 : Int32)] [] (sm_hp m) [] rfl (sm_on) ?_
      refine w_wk [true, false, true, true] ?_
      exact tX12_isEven_87 sm_fu (1 : Int32) (0 : Int32) m r hf
    · replace hf := sm_iff hc hf
      refine w_blk bX12_isEven_33 [.ref 72, .int v1, .int v2, .retAddr 0] [.int v2, .int v1] (sm_hp m) [] rfl (sm_on) ?_
      replace hf := sm_bd hf
      obtain ⟨r4, q3, hf⟩ := hf
      refine w_callS [.int v1, .int v2] [] (tX12_has v1 v2 m r4 q3) (csX12_144 rfl) dX12_isEven_35 rfl rfl (by decide) (by decide) (Nat.le_of_ble_eq_true rfl) ?_
      show sm_W _ _ _ _ _ 38 [.ref 72, .int v1, .int v2, .retAddr 0] [.int r4] (sm_hp m)
      refine w_if_eq (tgt := 45) dX12_isEven_38 rfl (fun hc => ?_) (fun hc => ?_)
      · replace hf := sm_ift hc hf
        refine w_blk bX12_isEven_45 [.ref 72, .int v1, .int v2, .retAddr 0] [.int (1 : Int32)] (sm_hp m) [] rfl (sm_on) ?_
        replace hf := sm_ck hf
        obtain ⟨q5, hf⟩ := hf
        replace hf := sm_ck hf
        obtain ⟨q6, hf⟩ := hf
        replace hf := sm_ck hf
        obtain ⟨q7, hf⟩ := hf
        replace hf := sm_ck hf
        obtain ⟨q8, hf⟩ := hf
        replace hf := sm_ck hf
        obtain ⟨q9, hf⟩ := hf
        replace hf := sm_ck hf
        obtain ⟨q10, hf⟩ := hf
        refine w_blk bX12_isEven_46 [.ref 72, .int v1, .int (v2 + (1 : Int32)), .int (1 : Int32)] [] (sm_hp (sm_w1 (sm_w1 m 95 (m.1 76 (v2).toNatClampNeg).toNatClampNeg ((m.1 95 (m.1 76 (v2).toNatClampNeg).toNatClampNeg) - (1 : Int32))) 95 (m.1 77 (v2).toNatClampNeg).toNatClampNeg (((sm_w1 m 95 (m.1 76 (v2).toNatClampNeg).toNatClampNeg ((m.1 95 (m.1 76 (v2).toNatClampNeg).toNatClampNeg) - (1 : Int32))).1 95 (m.1 77 (v2).toNatClampNeg).toNatClampNeg) + (1 : Int32)))) [(v2, 14), ((m.1 76 (v2).toNatClampNeg), 10), ((m.1 76 (v2).toNatClampNeg), 10), (v2, 14), ((m.1 77 (v2).toNatClampNeg), 10), ((m.1 77 (v2).toNatClampNeg), 10)] rfl (sm_oc q5 (sm_oc q6 (sm_oc q7 (sm_oc q8 (sm_oc q9 (sm_oc q10 (sm_on))))))) ?_
        refine w_goto (tgt := 25) dX12_isEven_80 rfl ?_
        refine w_wk [true, true, true, false] ?_
        exact ih v1 (v2 + (1 : Int32)) (sm_w1 (sm_w1 m 95 (m.1 76 (v2).toNatClampNeg).toNatClampNeg ((m.1 95 (m.1 76 (v2).toNatClampNeg).toNatClampNeg) - (1 : Int32))) 95 (m.1 77 (v2).toNatClampNeg).toNatClampNeg (((sm_w1 m 95 (m.1 76 (v2).toNatClampNeg).toNatClampNeg ((m.1 95 (m.1 76 (v2).toNatClampNeg).toNatClampNeg) - (1 : Int32))).1 95 (m.1 77 (v2).toNatClampNeg).toNatClampNeg) + (1 : Int32))) r hf
      · replace hf := sm_iff hc hf
        refine w_blk bX12_isEven_41 [.ref 72, .int v1, .int v2, .retAddr 0] [.int (-1 : Int32)] (sm_hp m) [] rfl (sm_on) ?_
        refine w_goto (tgt := 46) dX12_isEven_42 rfl ?_
        replace hf := sm_ck hf
        obtain ⟨q11, hf⟩ := hf
        replace hf := sm_ck hf
        obtain ⟨q12, hf⟩ := hf
        replace hf := sm_ck hf
        obtain ⟨q13, hf⟩ := hf
        replace hf := sm_ck hf
        obtain ⟨q14, hf⟩ := hf
        replace hf := sm_ck hf
        obtain ⟨q15, hf⟩ := hf
        replace hf := sm_ck hf
        obtain ⟨q16, hf⟩ := hf
        refine w_blk bX12_isEven_46 [.ref 72, .int v1, .int (v2 + (1 : Int32)), .int (-1 : Int32)] [] (sm_hp (sm_w1 (sm_w1 m 95 (m.1 76 (v2).toNatClampNeg).toNatClampNeg ((m.1 95 (m.1 76 (v2).toNatClampNeg).toNatClampNeg) - (-1 : Int32))) 95 (m.1 77 (v2).toNatClampNeg).toNatClampNeg (((sm_w1 m 95 (m.1 76 (v2).toNatClampNeg).toNatClampNeg ((m.1 95 (m.1 76 (v2).toNatClampNeg).toNatClampNeg) - (-1 : Int32))).1 95 (m.1 77 (v2).toNatClampNeg).toNatClampNeg) + (-1 : Int32)))) [(v2, 14), ((m.1 76 (v2).toNatClampNeg), 10), ((m.1 76 (v2).toNatClampNeg), 10), (v2, 14), ((m.1 77 (v2).toNatClampNeg), 10), ((m.1 77 (v2).toNatClampNeg), 10)] rfl (sm_oc q11 (sm_oc q12 (sm_oc q13 (sm_oc q14 (sm_oc q15 (sm_oc q16 (sm_on))))))) ?_
        refine w_goto (tgt := 25) dX12_isEven_80 rfl ?_
        refine w_wk [true, true, true, false] ?_
        exact ih v1 (v2 + (1 : Int32)) (sm_w1 (sm_w1 m 95 (m.1 76 (v2).toNatClampNeg).toNatClampNeg ((m.1 95 (m.1 76 (v2).toNatClampNeg).toNatClampNeg) - (-1 : Int32))) 95 (m.1 77 (v2).toNatClampNeg).toNatClampNeg (((sm_w1 m 95 (m.1 76 (v2).toNatClampNeg).toNatClampNeg ((m.1 95 (m.1 76 (v2).toNatClampNeg).toNatClampNeg) - (-1 : Int32))).1 95 (m.1 77 (v2).toNatClampNeg).toNatClampNeg) + (-1 : Int32))) r hf
set_option maxRecDepth 10000 in
theorem tX12_isEven_2 {l : Launch} {al : Bool} : ∀ (n : Nat) (v1 : Int32) (v2 : Int32) (m : sm_S) (r : Int32 × sm_S), fX12_isEven_2 n v1 v2 m = some r → sm_W l mX12_isEven 2 al (some (.int r.1), sm_hp r.2) 2 [.ref 72, .int v1, .int v2, .retAddr 0] [] (sm_hp m) := by
  intro n
  induction n with
  | zero =>
    intro v1 v2 m r hf
    unfold fX12_isEven_2 at hf
    cases hf
  | succ n ih =>
    intro v1 v2 m r hf
    unfold fX12_isEven_2 at hf
    refine w_blk bX12_isEven_2 [.ref 72, .int v1, .int v2, .retAddr 0] [.int (m.1 72 3), .int v2] (sm_hp m) [] rfl (sm_on) ?_
    refine w_icmp_ge (tgt := 23) dX12_isEven_7 rfl (fun hc => ?_) (fun hc => ?_)
    · replace hf := sm_ift hc hf
      refine w_blk bX12_isEven_23 [.ref 72, .int v1, .int (0 : Int32), .retAddr 0] [] (sm_hp m) [] rfl (sm_on) ?_
      exact tX12_isEven_25 sm_fu v1 (0 : Int32) m r hf
    · replace hf := sm_iff hc hf
      replace hf := sm_ck hf
      obtain ⟨q17, hf⟩ := hf
      refine w_blk bX12_isEven_10 [.ref 72, .int v1, .int (v2 + (1 : Int32)), .retAddr 0] [] (sm_hp (sm_w1 m 95 (v2).toNatClampNeg (0 : Int32))) [(v2, 10)] rfl (sm_oc q17 (sm_on)) ?_
      refine w_goto (tgt := 2) dX12_isEven_20 rfl ?_
      exact ih v1 (v2 + (1 : Int32)) (sm_w1 m 95 (v2).toNatClampNeg (0 : Int32)) r hf
set_option maxRecDepth 10000 in
theorem tX12_isEven {l : Launch} {al : Bool} (x1 : Int32) (m : sm_S) (r : Int32 × sm_S) (hf : fX12_isEven x1 m = some r) : sm_Rt l mX12_isEven 2 0 0 al al [.ref 72, .int x1] (sm_hp m) (some (.int r.1), sm_hp r.2) := by
  refine sm_Rt.ofW (L := [.ref 72, .int x1, .retAddr 0, .retAddr 0]) (by decide) (Nat.le_of_ble_eq_true rfl) rfl ?_
  unfold fX12_isEven at hf
  refine w_blk bX12_isEven_0 [.ref 72, .int x1, .int (0 : Int32), .retAddr 0] [] (sm_hp m) [] rfl (sm_on) ?_
  exact tX12_isEven_2 sm_fu x1 (0 : Int32) m r hf
set_option maxRecDepth 10000 in
theorem tX12_round_35 {l : Launch} {al : Bool} (k21 : Int32 → Int32 → Int32 → sm_S → Option (Int32 × sm_S)) (hk21 : ∀ (v1 : Int32) (v2 : Int32) (v3 : Int32) (m : sm_S) (r : Int32 × sm_S), k21 v1 v2 v3 m = some r → sm_W l mX12_round 4 al (some (.int r.1), sm_hp r.2) 21 [.ref 72, .int v1, .int v2, .int v3, .retAddr 0, .retAddr 0] [] (sm_hp m)) : ∀ (n : Nat) (v1 : Int32) (v2 : Int32) (v3 : Int32) (v4 : Int32) (v5 : Int32) (m : sm_S) (r : Int32 × sm_S), fX12_round_35 k21 n v1 v2 v3 v4 v5 m = some r → sm_W l mX12_round 4 al (some (.int r.1), sm_hp r.2) 35 [.ref 72, .int v1, .int v2, .int v3, .int v4, .int v5] [] (sm_hp m) := by
  intro n
  induction n with
  | zero =>
    intro v1 v2 v3 v4 v5 m r hf
    unfold fX12_round_35 at hf
    cases hf
  | succ n ih =>
    intro v1 v2 v3 v4 v5 m r hf
    unfold fX12_round_35 at hf
    refine w_blk bX12_round_35 [.ref 72, .int v1, .int v2, .int v3, .int v4, .int v5] [.int (m.1 72 6), .int v5] (sm_hp m) [] rfl (sm_on) ?_
    refine w_icmp_ge (tgt := 83) dX12_round_41 rfl (fun hc => ?_) (fun hc => ?_)
    · replace hf := sm_ift hc hf
      refine w_blk bX12_round_83 [.ref 72, .int v1, .int v2, .int v3, .int v4, .int v5] [.int v1] (sm_hp m) [] rfl (sm_on) ?_
      refine w_if_lt (tgt := 93) dX12_round_84 rfl (fun hc => ?_) (fun hc => ?_)
      · replace hf := sm_ift hc hf
        refine w_blk bX12_round_93 [.ref 72, .int v1, .int v2, .int v3, .int v4, .int v5] [.int v3, .ref 72] (sm_hp m) [] rfl (sm_on) ?_
        replace hf := sm_bd hf
        obtain ⟨r8, q7, hf⟩ := hf
        refine w_callV [.int v3] [] (tX12_isEven v3 m r8 q7) (cvX12_292 rfl) dX12_round_95 rfl rfl (by decide) (by decide) rfl (Nat.le_of_ble_eq_true rfl) ?_
        show sm_W _ _ _ _ _ 98 [.ref 72, .int v1, .int v2, .int v3, .int v4, .int v5] [.int r8.1] (sm_hp r8.2)
        refine w_if_eq (tgt := 106) dX12_round_98 rfl (fun hc => ?_) (fun hc => ?_)
        · replace hf := sm_ift hc hf
          refine w_blk bX12_round_106 [.ref 72, .int v1, .int v2, .int (v3 + (1 : Int32)), .int v4, .int v5] [] (sm_hp r8.2) [] rfl (sm_on) ?_
          refine w_goto (tgt := 21) dX12_round_109 rfl ?_
          refine w_wk [true, true, true, true, false, false] ?_
          exact hk21 v1 v2 (v3 + (1 : Int32)) r8.2 r hf
        · replace hf := sm_iff hc hf
          refine w_blk bX12_round_101 [.ref 72, .int v3, .int v4, .int v3, .int v4, .int v5] [] (sm_hp r8.2) [] rfl (sm_on) ?_
          refine w_blk bX12_round_106 [.ref 72, .int v3, .int v4, .int (v3 + (1 : Int32)), .int v4, .int v5] [] (sm_hp r8.2) [] rfl (sm_on) ?_
          refine w_goto (tgt := 21) dX12_round_109 rfl ?_
          refine w_wk [true, true, true, true, false, false] ?_
          exact hk21 v3 v4 (v3 + (1 : Int32)) r8.2 r hf
      · replace hf := sm_iff hc hf
        refine w_blk bX12_round_87 [.ref 72, .int v1, .int v2, .int v3, .int v4, .int v5] [.int v2, .int v4] (sm_hp m) [] rfl (sm_on) ?_
        refine w_icmp_ge (tgt := 106) dX12_round_90 rfl (fun hc => ?_) (fun hc => ?_)
        · replace hf := sm_ift hc hf
          refine w_blk bX12_round_106 [.ref 72, .int v1, .int v2, .int (v3 + (1 : Int32)), .int v4, .int v5] [] (sm_hp m) [] rfl (sm_on) ?_
          refine w_goto (tgt := 21) dX12_round_109 rfl ?_
          refine w_wk [true, true, true, true, false, false] ?_
          exact hk21 v1 v2 (v3 + (1 : Int32)) m r hf
        · replace hf := sm_iff hc hf
          refine w_blk bX12_round_93 [.ref 72, .int v1, .int v2, .int v3, .int v4, .int v5] [.int v3, .ref 72] (sm_hp m) [] rfl (sm_on) ?_
          replace hf := sm_bd hf
          obtain ⟨r10, q9, hf⟩ := hf
          refine w_callV [.int v3] [] (tX12_isEven v3 m r10 q9) (cvX12_292 rfl) dX12_round_95 rfl rfl (by decide) (by decide) rfl (Nat.le_of_ble_eq_true rfl) ?_
          show sm_W _ _ _ _ _ 98 [.ref 72, .int v1, .int v2, .int v3, .int v4, .int v5] [.int r10.1] (sm_hp r10.2)
          refine w_if_eq (tgt := 106) dX12_round_98 rfl (fun hc => ?_) (fun hc => ?_)
          · replace hf := sm_ift hc hf
            refine w_blk bX12_round_106 [.ref 72, .int v1, .int v2, .int (v3 + (1 : Int32)), .int v4, .int v5] [] (sm_hp r10.2) [] rfl (sm_on) ?_
            refine w_goto (tgt := 21) dX12_round_109 rfl ?_
            refine w_wk [true, true, true, true, false, false] ?_
            exact hk21 v1 v2 (v3 + (1 : Int32)) r10.2 r hf
          · replace hf := sm_iff hc hf
            refine w_blk bX12_round_101 [.ref 72, .int v3, .int v4, .int v3, .int v4, .int v5] [] (sm_hp r10.2) [] rfl (sm_on) ?_
            refine w_blk bX12_round_106 [.ref 72, .int v3, .int v4, .int (v3 + (1 : Int32)), .int v4, .int v5] [] (sm_hp r10.2) [] rfl (sm_on) ?_
            refine w_goto (tgt := 21) dX12_round_109 rfl ?_
            refine w_wk [true, true, true, true, false, false] ?_
            exact hk21 v3 v4 (v3 + (1 : Int32)) r10.2 r hf
    · replace hf := sm_iff hc hf
      replace hf := sm_ck hf
      obtain ⟨q11, hf⟩ := hf
      refine w_blk bX12_round_44 [.ref 72, .int v1, .int v2, .int v3, .int v4, .int v5] [.int v5, .int v3, .int (m.1 78 (v5).toNatClampNeg), .int v4] (sm_hp m) [(v5, 14)] rfl (sm_oc q11 (sm_on)) ?_
      replace hf := sm_bd hf
      obtain ⟨r13, q12, hf⟩ := hf
      refine w_callS [.int v3, .int v5] [.int (m.1 78 (v5).toNatClampNeg), .int v4] (tX12_has v3 v5 m r13 q12) (csX12_144 rfl) dX12_round_56 rfl rfl (by decide) (by decide) (Nat.le_of_ble_eq_true rfl) ?_
      show sm_W _ _ _ _ _ 59 [.ref 72, .int v1, .int v2, .int v3, .int v4, .int v5] [.int r13, .int (m.1 78 (v5).toNatClampNeg), .int v4] (sm_hp m)
      refine w_if_eq (tgt := 72) dX12_round_59 rfl (fun hc => ?_) (fun hc => ?_)
      · replace hf := sm_ift hc hf
        refine w_blk bX12_round_72 [.ref 72, .int v1, .int v2, .int v3, .int v4, .int v5] [.int (0 : Int32), .int (m.1 78 (v5).toNatClampNeg), .int v4] (sm_hp m) [] rfl (sm_on) ?_
        refine w_blk bX12_round_73 [.ref 72, .int v1, .int v2, .int v3, .int (v4 + ((m.1 78 (v5).toNatClampNeg) + (0 : Int32))), .int (v5 + (1 : Int32))] [] (sm_hp m) [] rfl (sm_on) ?_
        refine w_goto (tgt := 35) dX12_round_80 rfl ?_
        exact ih v1 v2 v3 (v4 + ((m.1 78 (v5).toNatClampNeg) + (0 : Int32))) (v5 + (1 : Int32)) m r hf
      · replace hf := sm_iff hc hf
        replace hf := sm_ck hf
        obtain ⟨q14, hf⟩ := hf
        refine w_blk bX12_round_62 [.ref 72, .int v1, .int v2, .int v3, .int v4, .int v5] [.int (m.1 82 (v5).toNatClampNeg), .int (m.1 78 (v5).toNatClampNeg), .int v4] (sm_hp m) [(v5, 14)] rfl (sm_oc q14 (sm_on)) ?_
        refine w_goto (tgt := 73) dX12_round_69 rfl ?_
        refine w_blk bX12_round_73 [.ref 72, .int v1, .int v2, .int v3, .int (v4 + ((m.1 78 (v5).toNatClampNeg) + (m.1 82 (v5).toNatClampNeg))), .int (v5 + (1 : Int32))] [] (sm_hp m) [] rfl (sm_on) ?_
        refine w_goto (tgt := 35) dX12_round_80 rfl ?_
        exact ih v1 v2 v3 (v4 + ((m.1 78 (v5).toNatClampNeg) + (m.1 82 (v5).toNatClampNeg))) (v5 + (1 : Int32)) m r hf
set_option maxRecDepth 10000 in
theorem tX12_round_21 {l : Launch} {al : Bool} : ∀ (n : Nat) (v1 : Int32) (v2 : Int32) (v3 : Int32) (m : sm_S) (r : Int32 × sm_S), fX12_round_21 n v1 v2 v3 m = some r → sm_W l mX12_round 4 al (some (.int r.1), sm_hp r.2) 21 [.ref 72, .int v1, .int v2, .int v3, .retAddr 0, .retAddr 0] [] (sm_hp m) := by
  intro n
  induction n with
  | zero =>
    intro v1 v2 v3 m r hf
    unfold fX12_round_21 at hf
    cases hf
  | succ n ih =>
    intro v1 v2 v3 m r hf
    unfold fX12_round_21 at hf
    refine w_blk bX12_round_21 [.ref 72, .int v1, .int v2, .int v3, .retAddr 0, .retAddr 0] [.ref 72, .int v3] (sm_hp m) [] rfl (sm_on) ?_
    replace hf := sm_bd hf
    obtain ⟨r4, q3, hf⟩ := hf
    refine w_callV [] [.int v3] (tX12_allHedges m r4 q3) (cvX12_266 rfl) dX12_round_23 rfl rfl (by decide) (by decide) rfl (Nat.le_of_ble_eq_true rfl) ?_
    show sm_W _ _ _ _ _ 26 [.ref 72, .int v1, .int v2, .int v3, .retAddr 0, .retAddr 0] [.int r4, .int v3] (sm_hp m)
    refine w_icmp_gt (tgt := 112) dX12_round_26 rfl (fun hc => ?_) (fun hc => ?_)
    · replace hf := sm_ift hc hf
      refine w_blk bX12_round_112 [.ref 72, .int v1, .int v2, .int v3, .retAddr 0, .retAddr 0] [.int v1] (sm_hp m) [] rfl (sm_on) ?_
      refine w_if_ge (tgt := 119) dX12_round_113 rfl (fun hc => ?_) (fun hc => ?_)
      · replace hf := sm_ift hc hf
        refine w_blk bX12_round_119 [.ref 72, .int v1, .int v2, .int v3, .retAddr 0, .retAddr 0] [.int v1, .ref 72] (sm_hp (sm_w1 m 72 1 (0 : Int32))) [] rfl (sm_on) ?_
        replace hf := sm_bd hf
        obtain ⟨m6, q5, hf⟩ := hf
        refine w_callV [.int v1] [] (tX12_enters v1 (sm_w1 m 72 1 (0 : Int32)) m6 q5) (cvX12_229 rfl) dX12_round_126 rfl rfl (by decide) (by decide) rfl (Nat.le_of_ble_eq_true rfl) ?_
        show sm_W _ _ _ _ _ 129 [.ref 72, .int v1, .int v2, .int v3, .retAddr 0, .retAddr 0] [] (sm_hp m6)
        refine w_blk bX12_round_129 [.ref 72, .int v1, .int v2, .int v3, .retAddr 0, .retAddr 0] [.int v2] (sm_hp m6) [] rfl (sm_on) ?_
        obtain rfl := Option.some.inj hf
        exact w_reti dX12_round_130 rfl rfl
      · replace hf := sm_iff hc hf
        refine w_blk bX12_round_116 [.ref 72, .int v1, .int v2, .int v3, .retAddr 0, .retAddr 0] [.int (-2 : Int32)] (sm_hp m) [] rfl (sm_on) ?_
        obtain rfl := Option.some.inj hf
        exact w_reti dX12_round_118 rfl rfl
    · replace hf := sm_iff hc hf
      refine w_blk bX12_round_29 [.ref 72, .int v1, .int v2, .int v3, .int (0 : Int32), .int (0 : Int32)] [] (sm_hp m) [] rfl (sm_on) ?_
      exact tX12_round_35 (fX12_round_21 n) ih sm_fu v1 v2 v3 (0 : Int32) (0 : Int32) m r hf
set_option maxRecDepth 10000 in
theorem tX12_round {l : Launch} {al : Bool} (m : sm_S) (r : Int32 × sm_S) (hf : fX12_round m = some r) : sm_Rt l mX12_round 4 0 0 al al [.ref 72] (sm_hp m) (some (.int r.1), sm_hp r.2) := by
  refine sm_Rt.ofW (L := [.ref 72, .retAddr 0, .retAddr 0, .retAddr 0, .retAddr 0, .retAddr 0]) (by decide) (Nat.le_of_ble_eq_true rfl) rfl ?_
  unfold fX12_round at hf
  refine w_blk bX12_round_0 [.ref 72, .retAddr 0, .retAddr 0, .retAddr 0, .retAddr 0, .retAddr 0] [.ref 72] (sm_hp (sm_w1 m 72 0 (0 : Int32))) [] rfl (sm_on) ?_
  replace hf := sm_bd hf
  obtain ⟨r2, q1, hf⟩ := hf
  refine w_callV [] [] (tX12_hangTogether (sm_w1 m 72 0 (0 : Int32)) r2 q1) (cvX12_289 rfl) dX12_round_6 rfl rfl (by decide) (by decide) rfl (Nat.le_of_ble_eq_true rfl) ?_
  show sm_W _ _ _ _ _ 9 [.ref 72, .retAddr 0, .retAddr 0, .retAddr 0, .retAddr 0, .retAddr 0] [.int r2.1] (sm_hp r2.2)
  refine w_if_ne (tgt := 15) dX12_round_9 rfl (fun hc => ?_) (fun hc => ?_)
  · replace hf := sm_iff hc hf
    refine w_blk bX12_round_15 [.ref 72, .int (-1 : Int32), .int (0 : Int32), .int (0 : Int32), .retAddr 0, .retAddr 0] [] (sm_hp r2.2) [] rfl (sm_on) ?_
    exact tX12_round_21 sm_fu (-1 : Int32) (0 : Int32) (0 : Int32) r2.2 r hf
  · replace hf := sm_ift hc hf
    refine w_blk bX12_round_12 [.ref 72, .retAddr 0, .retAddr 0, .retAddr 0, .retAddr 0, .retAddr 0] [.int (-2 : Int32)] (sm_hp r2.2) [] rfl (sm_on) ?_
    obtain rfl := Option.some.inj hf
    exact w_reti dX12_round_14 rfl rfl
set_option maxRecDepth 10000 in
theorem tJ6_numberOfTrailingZeros_0f7a4 {l : Launch} {al : Bool} (x1 : Int32) (m : sm_S) (r : Int32) (hf : fJ6_numberOfTrailingZeros_0f7a4 x1 m = some r) : sm_Rt l mJ6_numberOfTrailingZeros_0f7a4 1 0 0 al al [.int x1] (sm_hp m) (some (.int r), sm_hp m) := by
  refine sm_Rt.ofW (L := [.int x1, .retAddr 0]) (by decide) (Nat.le_of_ble_eq_true rfl) rfl ?_
  unfold fJ6_numberOfTrailingZeros_0f7a4 at hf
  refine w_blk bJ6_numberOfTrailingZeros_0f7a4_0 [.int ((x1 ^^^ (-1 : Int32)) &&& (x1 - (1 : Int32))), .retAddr 0] [.int ((x1 ^^^ (-1 : Int32)) &&& (x1 - (1 : Int32)))] (sm_hp m) [] rfl (sm_on) ?_
  refine w_if_gt (tgt := 17) dJ6_numberOfTrailingZeros_0f7a4_9 rfl (fun hc => ?_) (fun hc => ?_)
  · replace hf := sm_ift hc hf
    refine w_blk bJ6_numberOfTrailingZeros_0f7a4_17 [.int ((x1 ^^^ (-1 : Int32)) &&& (x1 - (1 : Int32))), .int (1 : Int32)] [.int (65536 : Int32), .int ((x1 ^^^ (-1 : Int32)) &&& (x1 - (1 : Int32)))] (sm_hp m) [] rfl (sm_on) ?_
    refine w_icmp_le (tgt := 34) dJ6_numberOfTrailingZeros_0f7a4_23 rfl (fun hc => ?_) (fun hc => ?_)
    · replace hf := sm_ift hc hf
      refine w_blk bJ6_numberOfTrailingZeros_0f7a4_34 [.int ((x1 ^^^ (-1 : Int32)) &&& (x1 - (1 : Int32))), .int (1 : Int32)] [.int (256 : Int32), .int ((x1 ^^^ (-1 : Int32)) &&& (x1 - (1 : Int32)))] (sm_hp m) [] rfl (sm_on) ?_
      refine w_icmp_le (tgt := 49) dJ6_numberOfTrailingZeros_0f7a4_38 rfl (fun hc => ?_) (fun hc => ?_)
      · replace hf := sm_ift hc hf
        refine w_blk bJ6_numberOfTrailingZeros_0f7a4_49 [.int ((x1 ^^^ (-1 : Int32)) &&& (x1 - (1 : Int32))), .int (1 : Int32)] [.int (16 : Int32), .int ((x1 ^^^ (-1 : Int32)) &&& (x1 - (1 : Int32)))] (sm_hp m) [] rfl (sm_on) ?_
        refine w_icmp_le (tgt := 62) dJ6_numberOfTrailingZeros_0f7a4_52 rfl (fun hc => ?_) (fun hc => ?_)
        · replace hf := sm_ift hc hf
          refine w_blk bJ6_numberOfTrailingZeros_0f7a4_62 [.int ((x1 ^^^ (-1 : Int32)) &&& (x1 - (1 : Int32))), .int (1 : Int32)] [.int (4 : Int32), .int ((x1 ^^^ (-1 : Int32)) &&& (x1 - (1 : Int32)))] (sm_hp m) [] rfl (sm_on) ?_
          refine w_icmp_le (tgt := 74) dJ6_numberOfTrailingZeros_0f7a4_64 rfl (fun hc => ?_) (fun hc => ?_)
          · replace hf := sm_ift hc hf
            refine w_blk bJ6_numberOfTrailingZeros_0f7a4_74 [.int ((x1 ^^^ (-1 : Int32)) &&& (x1 - (1 : Int32))), .int (1 : Int32)] [.int ((1 : Int32) + ((((x1 ^^^ (-1 : Int32)) &&& (x1 - (1 : Int32))).toUInt32 >>> ((1 : Int32).toUInt32 &&& Int32.toUInt32 31)).toInt32))] (sm_hp m) [] rfl (sm_on) ?_
            obtain rfl := Option.some.inj hf
            exact w_reti dJ6_numberOfTrailingZeros_0f7a4_79 rfl rfl
          · replace hf := sm_iff hc hf
            refine w_blk bJ6_numberOfTrailingZeros_0f7a4_67 [.int ((((x1 ^^^ (-1 : Int32)) &&& (x1 - (1 : Int32))).toUInt32 >>> ((2 : Int32).toUInt32 &&& Int32.toUInt32 31)).toInt32), .int ((1 : Int32) + (2 : Int32))] [] (sm_hp m) [] rfl (sm_on) ?_
            refine w_blk bJ6_numberOfTrailingZeros_0f7a4_74 [.int ((((x1 ^^^ (-1 : Int32)) &&& (x1 - (1 : Int32))).toUInt32 >>> ((2 : Int32).toUInt32 &&& Int32.toUInt32 31)).toInt32), .int ((1 : Int32) + (2 : Int32))] [.int (((1 : Int32) + (2 : Int32)) + ((((((x1 ^^^ (-1 : Int32)) &&& (x1 - (1 : Int32))).toUInt32 >>> ((2 : Int32).toUInt32 &&& Int32.toUInt32 31)).toInt32).toUInt32 >>> ((1 : Int32).toUInt32 &&& Int32.toUInt32 31)).toInt32))] (sm_hp m) [] rfl (sm_on) ?_
            obtain rfl := Option.some.inj hf
            exact w_reti dJ6_numberOfTrailingZeros_0f7a4_79 rfl rfl
        · replace hf := sm_iff hc hf
          refine w_blk bJ6_numberOfTrailingZeros_0f7a4_55 [.int ((((x1 ^^^ (-1 : Int32)) &&& (x1 - (1 : Int32))).toUInt32 >>> ((4 : Int32).toUInt32 &&& Int32.toUInt32 31)).toInt32), .int ((1 : Int32) + (4 : Int32))] [] (sm_hp m) [] rfl (sm_on) ?_
          refine w_blk bJ6_numberOfTrailingZeros_0f7a4_62 [.int ((((x1 ^^^ (-1 : Int32)) &&& (x1 - (1 : Int32))).toUInt32 >>> ((4 : Int32).toUInt32 &&& Int32.toUInt32 31)).toInt32), .int ((1 : Int32) + (4 : Int32))] [.int (4 : Int32), .int ((((x1 ^^^ (-1 : Int32)) &&& (x1 - (1 : Int32))).toUInt32 >>> ((4 : Int32).toUInt32 &&& Int32.toUInt32 31)).toInt32)] (sm_hp m) [] rfl (sm_on) ?_
          refine w_icmp_le (tgt := 74) dJ6_numberOfTrailingZeros_0f7a4_64 rfl (fun hc => ?_) (fun hc => ?_)
          · replace hf := sm_ift hc hf
            refine w_blk bJ6_numberOfTrailingZeros_0f7a4_74 [.int ((((x1 ^^^ (-1 : Int32)) &&& (x1 - (1 : Int32))).toUInt32 >>> ((4 : Int32).toUInt32 &&& Int32.toUInt32 31)).toInt32), .int ((1 : Int32) + (4 : Int32))] [.int (((1 : Int32) + (4 : Int32)) + ((((((x1 ^^^ (-1 : Int32)) &&& (x1 - (1 : Int32))).toUInt32 >>> ((4 : Int32).toUInt32 &&& Int32.toUInt32 31)).toInt32).toUInt32 >>> ((1 : Int32).toUInt32 &&& Int32.toUInt32 31)).toInt32))] (sm_hp m) [] rfl (sm_on) ?_
            obtain rfl := Option.some.inj hf
            exact w_reti dJ6_numberOfTrailingZeros_0f7a4_79 rfl rfl
          · replace hf := sm_iff hc hf
            refine w_blk bJ6_numberOfTrailingZeros_0f7a4_67 [.int ((((((x1 ^^^ (-1 : Int32)) &&& (x1 - (1 : Int32))).toUInt32 >>> ((4 : Int32).toUInt32 &&& Int32.toUInt32 31)).toInt32).toUInt32 >>> ((2 : Int32).toUInt32 &&& Int32.toUInt32 31)).toInt32), .int (((1 : Int32) + (4 : Int32)) + (2 : Int32))] [] (sm_hp m) [] rfl (sm_on) ?_
            refine w_blk bJ6_numberOfTrailingZeros_0f7a4_74 [.int ((((((x1 ^^^ (-1 : Int32)) &&& (x1 - (1 : Int32))).toUInt32 >>> ((4 : Int32).toUInt32 &&& Int32.toUInt32 31)).toInt32).toUInt32 >>> ((2 : Int32).toUInt32 &&& Int32.toUInt32 31)).toInt32), .int (((1 : Int32) + (4 : Int32)) + (2 : Int32))] [.int ((((1 : Int32) + (4 : Int32)) + (2 : Int32)) + ((((((((x1 ^^^ (-1 : Int32)) &&& (x1 - (1 : Int32))).toUInt32 >>> ((4 : Int32).toUInt32 &&& Int32.toUInt32 31)).toInt32).toUInt32 >>> ((2 : Int32).toUInt32 &&& Int32.toUInt32 31)).toInt32).toUInt32 >>> ((1 : Int32).toUInt32 &&& Int32.toUInt32 31)).toInt32))] (sm_hp m) [] rfl (sm_on) ?_
            obtain rfl := Option.some.inj hf
            exact w_reti dJ6_numberOfTrailingZeros_0f7a4_79 rfl rfl
      · replace hf := sm_iff hc hf
        refine w_blk bJ6_numberOfTrailingZeros_0f7a4_41 [.int ((((x1 ^^^ (-1 : Int32)) &&& (x1 - (1 : Int32))).toUInt32 >>> ((8 : Int32).toUInt32 &&& Int32.toUInt32 31)).toInt32), .int ((1 : Int32) + (8 : Int32))] [] (sm_hp m) [] rfl (sm_on) ?_
        refine w_blk bJ6_numberOfTrailingZeros_0f7a4_49 [.int ((((x1 ^^^ (-1 : Int32)) &&& (x1 - (1 : Int32))).toUInt32 >>> ((8 : Int32).toUInt32 &&& Int32.toUInt32 31)).toInt32), .int ((1 : Int32) + (8 : Int32))] [.int (16 : Int32), .int ((((x1 ^^^ (-1 : Int32)) &&& (x1 - (1 : Int32))).toUInt32 >>> ((8 : Int32).toUInt32 &&& Int32.toUInt32 31)).toInt32)] (sm_hp m) [] rfl (sm_on) ?_
        refine w_icmp_le (tgt := 62) dJ6_numberOfTrailingZeros_0f7a4_52 rfl (fun hc => ?_) (fun hc => ?_)
        · replace hf := sm_ift hc hf
          refine w_blk bJ6_numberOfTrailingZeros_0f7a4_62 [.int ((((x1 ^^^ (-1 : Int32)) &&& (x1 - (1 : Int32))).toUInt32 >>> ((8 : Int32).toUInt32 &&& Int32.toUInt32 31)).toInt32), .int ((1 : Int32) + (8 : Int32))] [.int (4 : Int32), .int ((((x1 ^^^ (-1 : Int32)) &&& (x1 - (1 : Int32))).toUInt32 >>> ((8 : Int32).toUInt32 &&& Int32.toUInt32 31)).toInt32)] (sm_hp m) [] rfl (sm_on) ?_
          refine w_icmp_le (tgt := 74) dJ6_numberOfTrailingZeros_0f7a4_64 rfl (fun hc => ?_) (fun hc => ?_)
          · replace hf := sm_ift hc hf
            refine w_blk bJ6_numberOfTrailingZeros_0f7a4_74 [.int ((((x1 ^^^ (-1 : Int32)) &&& (x1 - (1 : Int32))).toUInt32 >>> ((8 : Int32).toUInt32 &&& Int32.toUInt32 31)).toInt32), .int ((1 : Int32) + (8 : Int32))] [.int (((1 : Int32) + (8 : Int32)) + ((((((x1 ^^^ (-1 : Int32)) &&& (x1 - (1 : Int32))).toUInt32 >>> ((8 : Int32).toUInt32 &&& Int32.toUInt32 31)).toInt32).toUInt32 >>> ((1 : Int32).toUInt32 &&& Int32.toUInt32 31)).toInt32))] (sm_hp m) [] rfl (sm_on) ?_
            obtain rfl := Option.some.inj hf
            exact w_reti dJ6_numberOfTrailingZeros_0f7a4_79 rfl rfl
          · replace hf := sm_iff hc hf
            refine w_blk bJ6_numberOfTrailingZeros_0f7a4_67 [.int ((((((x1 ^^^ (-1 : Int32)) &&& (x1 - (1 : Int32))).toUInt32 >>> ((8 : Int32).toUInt32 &&& Int32.toUInt32 31)).toInt32).toUInt32 >>> ((2 : Int32).toUInt32 &&& Int32.toUInt32 31)).toInt32), .int (((1 : Int32) + (8 : Int32)) + (2 : Int32))] [] (sm_hp m) [] rfl (sm_on) ?_
            refine w_blk bJ6_numberOfTrailingZeros_0f7a4_74 [.int ((((((x1 ^^^ (-1 : Int32)) &&& (x1 - (1 : Int32))).toUInt32 >>> ((8 : Int32).toUInt32 &&& Int32.toUInt32 31)).toInt32).toUInt32 >>> ((2 : Int32).toUInt32 &&& Int32.toUInt32 31)).toInt32), .int (((1 : Int32) + (8 : Int32)) + (2 : Int32))] [.int ((((1 : Int32) + (8 : Int32)) + (2 : Int32)) + ((((((((x1 ^^^ (-1 : Int32)) &&& (x1 - (1 : Int32))).toUInt32 >>> ((8 : Int32).toUInt32 &&& Int32.toUInt32 31)).toInt32).toUInt32 >>> ((2 : Int32).toUInt32 &&& Int32.toUInt32 31)).toInt32).toUInt32 >>> ((1 : Int32).toUInt32 &&& Int32.toUInt32 31)).toInt32))] (sm_hp m) [] rfl (sm_on) ?_
            obtain rfl := Option.some.inj hf
            exact w_reti dJ6_numberOfTrailingZeros_0f7a4_79 rfl rfl
        · replace hf := sm_iff hc hf
          refine w_blk bJ6_numberOfTrailingZeros_0f7a4_55 [.int ((((((x1 ^^^ (-1 : Int32)) &&& (x1 - (1 : Int32))).toUInt32 >>> ((8 : Int32).toUInt32 &&& Int32.toUInt32 31)).toInt32).toUInt32 >>> ((4 : Int32).toUInt32 &&& Int32.toUInt32 31)).toInt32), .int (((1 : Int32) + (8 : Int32)) + (4 : Int32))] [] (sm_hp m) [] rfl (sm_on) ?_
          refine w_blk bJ6_numberOfTrailingZeros_0f7a4_62 [.int ((((((x1 ^^^ (-1 : Int32)) &&& (x1 - (1 : Int32))).toUInt32 >>> ((8 : Int32).toUInt32 &&& Int32.toUInt32 31)).toInt32).toUInt32 >>> ((4 : Int32).toUInt32 &&& Int32.toUInt32 31)).toInt32), .int (((1 : Int32) + (8 : Int32)) + (4 : Int32))] [.int (4 : Int32), .int ((((((x1 ^^^ (-1 : Int32)) &&& (x1 - (1 : Int32))).toUInt32 >>> ((8 : Int32).toUInt32 &&& Int32.toUInt32 31)).toInt32).toUInt32 >>> ((4 : Int32).toUInt32 &&& Int32.toUInt32 31)).toInt32)] (sm_hp m) [] rfl (sm_on) ?_
          refine w_icmp_le (tgt := 74) dJ6_numberOfTrailingZeros_0f7a4_64 rfl (fun hc => ?_) (fun hc => ?_)
          · replace hf := sm_ift hc hf
            refine w_blk bJ6_numberOfTrailingZeros_0f7a4_74 [.int ((((((x1 ^^^ (-1 : Int32)) &&& (x1 - (1 : Int32))).toUInt32 >>> ((8 : Int32).toUInt32 &&& Int32.toUInt32 31)).toInt32).toUInt32 >>> ((4 : Int32).toUInt32 &&& Int32.toUInt32 31)).toInt32), .int (((1 : Int32) + (8 : Int32)) + (4 : Int32))] [.int ((((1 : Int32) + (8 : Int32)) + (4 : Int32)) + ((((((((x1 ^^^ (-1 : Int32)) &&& (x1 - (1 : Int32))).toUInt32 >>> ((8 : Int32).toUInt32 &&& Int32.toUInt32 31)).toInt32).toUInt32 >>> ((4 : Int32).toUInt32 &&& Int32.toUInt32 31)).toInt32).toUInt32 >>> ((1 : Int32).toUInt32 &&& Int32.toUInt32 31)).toInt32))] (sm_hp m) [] rfl (sm_on) ?_
            obtain rfl := Option.some.inj hf
            exact w_reti dJ6_numberOfTrailingZeros_0f7a4_79 rfl rfl
          · replace hf := sm_iff hc hf
            refine w_blk bJ6_numberOfTrailingZeros_0f7a4_67 [.int ((((((((x1 ^^^ (-1 : Int32)) &&& (x1 - (1 : Int32))).toUInt32 >>> ((8 : Int32).toUInt32 &&& Int32.toUInt32 31)).toInt32).toUInt32 >>> ((4 : Int32).toUInt32 &&& Int32.toUInt32 31)).toInt32).toUInt32 >>> ((2 : Int32).toUInt32 &&& Int32.toUInt32 31)).toInt32), .int ((((1 : Int32) + (8 : Int32)) + (4 : Int32)) + (2 : Int32))] [] (sm_hp m) [] rfl (sm_on) ?_
            refine w_blk bJ6_numberOfTrailingZeros_0f7a4_74 [.int ((((((((x1 ^^^ (-1 : Int32)) &&& (x1 - (1 : Int32))).toUInt32 >>> ((8 : Int32).toUInt32 &&& Int32.toUInt32 31)).toInt32).toUInt32 >>> ((4 : Int32).toUInt32 &&& Int32.toUInt32 31)).toInt32).toUInt32 >>> ((2 : Int32).toUInt32 &&& Int32.toUInt32 31)).toInt32), .int ((((1 : Int32) + (8 : Int32)) + (4 : Int32)) + (2 : Int32))] [.int (((((1 : Int32) + (8 : Int32)) + (4 : Int32)) + (2 : Int32)) + ((((((((((x1 ^^^ (-1 : Int32)) &&& (x1 - (1 : Int32))).toUInt32 >>> ((8 : Int32).toUInt32 &&& Int32.toUInt32 31)).toInt32).toUInt32 >>> ((4 : Int32).toUInt32 &&& Int32.toUInt32 31)).toInt32).toUInt32 >>> ((2 : Int32).toUInt32 &&& Int32.toUInt32 31)).toInt32).toUInt32 >>> ((1 : Int32).toUInt32 &&& Int32.toUInt32 31)).toInt32))] (sm_hp m) [] rfl (sm_on) ?_
            obtain rfl := Option.some.inj hf
            exact w_reti dJ6_numberOfTrailingZeros_0f7a4_79 rfl rfl
    · replace hf := sm_iff hc hf
      refine w_blk bJ6_numberOfTrailingZeros_0f7a4_26 [.int ((((x1 ^^^ (-1 : Int32)) &&& (x1 - (1 : Int32))).toUInt32 >>> ((16 : Int32).toUInt32 &&& Int32.toUInt32 31)).toInt32), .int ((1 : Int32) + (16 : Int32))] [] (sm_hp m) [] rfl (sm_on) ?_
      refine w_blk bJ6_numberOfTrailingZeros_0f7a4_34 [.int ((((x1 ^^^ (-1 : Int32)) &&& (x1 - (1 : Int32))).toUInt32 >>> ((16 : Int32).toUInt32 &&& Int32.toUInt32 31)).toInt32), .int ((1 : Int32) + (16 : Int32))] [.int (256 : Int32), .int ((((x1 ^^^ (-1 : Int32)) &&& (x1 - (1 : Int32))).toUInt32 >>> ((16 : Int32).toUInt32 &&& Int32.toUInt32 31)).toInt32)] (sm_hp m) [] rfl (sm_on) ?_
      refine w_icmp_le (tgt := 49) dJ6_numberOfTrailingZeros_0f7a4_38 rfl (fun hc => ?_) (fun hc => ?_)
      · replace hf := sm_ift hc hf
        refine w_blk bJ6_numberOfTrailingZeros_0f7a4_49 [.int ((((x1 ^^^ (-1 : Int32)) &&& (x1 - (1 : Int32))).toUInt32 >>> ((16 : Int32).toUInt32 &&& Int32.toUInt32 31)).toInt32), .int ((1 : Int32) + (16 : Int32))] [.int (16 : Int32), .int ((((x1 ^^^ (-1 : Int32)) &&& (x1 - (1 : Int32))).toUInt32 >>> ((16 : Int32).toUInt32 &&& Int32.toUInt32 31)).toInt32)] (sm_hp m) [] rfl (sm_on) ?_
        refine w_icmp_le (tgt := 62) dJ6_numberOfTrailingZeros_0f7a4_52 rfl (fun hc => ?_) (fun hc => ?_)
        · replace hf := sm_ift hc hf
          refine w_blk bJ6_numberOfTrailingZeros_0f7a4_62 [.int ((((x1 ^^^ (-1 : Int32)) &&& (x1 - (1 : Int32))).toUInt32 >>> ((16 : Int32).toUInt32 &&& Int32.toUInt32 31)).toInt32), .int ((1 : Int32) + (16 : Int32))] [.int (4 : Int32), .int ((((x1 ^^^ (-1 : Int32)) &&& (x1 - (1 : Int32))).toUInt32 >>> ((16 : Int32).toUInt32 &&& Int32.toUInt32 31)).toInt32)] (sm_hp m) [] rfl (sm_on) ?_
          refine w_icmp_le (tgt := 74) dJ6_numberOfTrailingZeros_0f7a4_64 rfl (fun hc => ?_) (fun hc => ?_)
          · replace hf := sm_ift hc hf
            refine w_blk bJ6_numberOfTrailingZeros_0f7a4_74 [.int ((((x1 ^^^ (-1 : Int32)) &&& (x1 - (1 : Int32))).toUInt32 >>> ((16 : Int32).toUInt32 &&& Int32.toUInt32 31)).toInt32), .int ((1 : Int32) + (16 : Int32))] [.int (((1 : Int32) + (16 : Int32)) + ((((((x1 ^^^ (-1 : Int32)) &&& (x1 - (1 : Int32))).toUInt32 >>> ((16 : Int32).toUInt32 &&& Int32.toUInt32 31)).toInt32).toUInt32 >>> ((1 : Int32).toUInt32 &&& Int32.toUInt32 31)).toInt32))] (sm_hp m) [] rfl (sm_on) ?_
            obtain rfl := Option.some.inj hf
            exact w_reti dJ6_numberOfTrailingZeros_0f7a4_79 rfl rfl
          · replace hf := sm_iff hc hf
            refine w_blk bJ6_numberOfTrailingZeros_0f7a4_67 [.int ((((((x1 ^^^ (-1 : Int32)) &&& (x1 - (1 : Int32))).toUInt32 >>> ((16 : Int32).toUInt32 &&& Int32.toUInt32 31)).toInt32).toUInt32 >>> ((2 : Int32).toUInt32 &&& Int32.toUInt32 31)).toInt32), .int (((1 : Int32) + (16 : Int32)) + (2 : Int32))] [] (sm_hp m) [] rfl (sm_on) ?_
            refine w_blk bJ6_numberOfTrailingZeros_0f7a4_74 [.int ((((((x1 ^^^ (-1 : Int32)) &&& (x1 - (1 : Int32))).toUInt32 >>> ((16 : Int32).toUInt32 &&& Int32.toUInt32 31)).toInt32).toUInt32 >>> ((2 : Int32).toUInt32 &&& Int32.toUInt32 31)).toInt32), .int (((1 : Int32) + (16 : Int32)) + (2 : Int32))] [.int ((((1 : Int32) + (16 : Int32)) + (2 : Int32)) + ((((((((x1 ^^^ (-1 : Int32)) &&& (x1 - (1 : Int32))).toUInt32 >>> ((16 : Int32).toUInt32 &&& Int32.toUInt32 31)).toInt32).toUInt32 >>> ((2 : Int32).toUInt32 &&& Int32.toUInt32 31)).toInt32).toUInt32 >>> ((1 : Int32).toUInt32 &&& Int32.toUInt32 31)).toInt32))] (sm_hp m) [] rfl (sm_on) ?_
            obtain rfl := Option.some.inj hf
            exact w_reti dJ6_numberOfTrailingZeros_0f7a4_79 rfl rfl
        · replace hf := sm_iff hc hf
          refine w_blk bJ6_numberOfTrailingZeros_0f7a4_55 [.int ((((((x1 ^^^ (-1 : Int32)) &&& (x1 - (1 : Int32))).toUInt32 >>> ((16 : Int32).toUInt32 &&& Int32.toUInt32 31)).toInt32).toUInt32 >>> ((4 : Int32).toUInt32 &&& Int32.toUInt32 31)).toInt32), .int (((1 : Int32) + (16 : Int32)) + (4 : Int32))] [] (sm_hp m) [] rfl (sm_on) ?_
          refine w_blk bJ6_numberOfTrailingZeros_0f7a4_62 [.int ((((((x1 ^^^ (-1 : Int32)) &&& (x1 - (1 : Int32))).toUInt32 >>> ((16 : Int32).toUInt32 &&& Int32.toUInt32 31)).toInt32).toUInt32 >>> ((4 : Int32).toUInt32 &&& Int32.toUInt32 31)).toInt32), .int (((1 : Int32) + (16 : Int32)) + (4 : Int32))] [.int (4 : Int32), .int ((((((x1 ^^^ (-1 : Int32)) &&& (x1 - (1 : Int32))).toUInt32 >>> ((16 : Int32).toUInt32 &&& Int32.toUInt32 31)).toInt32).toUInt32 >>> ((4 : Int32).toUInt32 &&& Int32.toUInt32 31)).toInt32)] (sm_hp m) [] rfl (sm_on) ?_
          refine w_icmp_le (tgt := 74) dJ6_numberOfTrailingZeros_0f7a4_64 rfl (fun hc => ?_) (fun hc => ?_)
          · replace hf := sm_ift hc hf
            refine w_blk bJ6_numberOfTrailingZeros_0f7a4_74 [.int ((((((x1 ^^^ (-1 : Int32)) &&& (x1 - (1 : Int32))).toUInt32 >>> ((16 : Int32).toUInt32 &&& Int32.toUInt32 31)).toInt32).toUInt32 >>> ((4 : Int32).toUInt32 &&& Int32.toUInt32 31)).toInt32), .int (((1 : Int32) + (16 : Int32)) + (4 : Int32))] [.int ((((1 : Int32) + (16 : Int32)) + (4 : Int32)) + ((((((((x1 ^^^ (-1 : Int32)) &&& (x1 - (1 : Int32))).toUInt32 >>> ((16 : Int32).toUInt32 &&& Int32.toUInt32 31)).toInt32).toUInt32 >>> ((4 : Int32).toUInt32 &&& Int32.toUInt32 31)).toInt32).toUInt32 >>> ((1 : Int32).toUInt32 &&& Int32.toUInt32 31)).toInt32))] (sm_hp m) [] rfl (sm_on) ?_
            obtain rfl := Option.some.inj hf
            exact w_reti dJ6_numberOfTrailingZeros_0f7a4_79 rfl rfl
          · replace hf := sm_iff hc hf
            refine w_blk bJ6_numberOfTrailingZeros_0f7a4_67 [.int ((((((((x1 ^^^ (-1 : Int32)) &&& (x1 - (1 : Int32))).toUInt32 >>> ((16 : Int32).toUInt32 &&& Int32.toUInt32 31)).toInt32).toUInt32 >>> ((4 : Int32).toUInt32 &&& Int32.toUInt32 31)).toInt32).toUInt32 >>> ((2 : Int32).toUInt32 &&& Int32.toUInt32 31)).toInt32), .int ((((1 : Int32) + (16 : Int32)) + (4 : Int32)) + (2 : Int32))] [] (sm_hp m) [] rfl (sm_on) ?_
            refine w_blk bJ6_numberOfTrailingZeros_0f7a4_74 [.int ((((((((x1 ^^^ (-1 : Int32)) &&& (x1 - (1 : Int32))).toUInt32 >>> ((16 : Int32).toUInt32 &&& Int32.toUInt32 31)).toInt32).toUInt32 >>> ((4 : Int32).toUInt32 &&& Int32.toUInt32 31)).toInt32).toUInt32 >>> ((2 : Int32).toUInt32 &&& Int32.toUInt32 31)).toInt32), .int ((((1 : Int32) + (16 : Int32)) + (4 : Int32)) + (2 : Int32))] [.int (((((1 : Int32) + (16 : Int32)) + (4 : Int32)) + (2 : Int32)) + ((((((((((x1 ^^^ (-1 : Int32)) &&& (x1 - (1 : Int32))).toUInt32 >>> ((16 : Int32).toUInt32 &&& Int32.toUInt32 31)).toInt32).toUInt32 >>> ((4 : Int32).toUInt32 &&& Int32.toUInt32 31)).toInt32).toUInt32 >>> ((2 : Int32).toUInt32 &&& Int32.toUInt32 31)).toInt32).toUInt32 >>> ((1 : Int32).toUInt32 &&& Int32.toUInt32 31)).toInt32))] (sm_hp m) [] rfl (sm_on) ?_
            obtain rfl := Option.some.inj hf
            exact w_reti dJ6_numberOfTrailingZeros_0f7a4_79 rfl rfl
      · replace hf := sm_iff hc hf
        refine w_blk bJ6_numberOfTrailingZeros_0f7a4_41 [.int ((((((x1 ^^^ (-1 : Int32)) &&& (x1 - (1 : Int32))).toUInt32 >>> ((16 : Int32).toUInt32 &&& Int32.toUInt32 31)).toInt32).toUInt32 >>> ((8 : Int32).toUInt32 &&& Int32.toUInt32 31)).toInt32), .int (((1 : Int32) + (16 : Int32)) + (8 : Int32))] [] (sm_hp m) [] rfl (sm_on) ?_
        refine w_blk bJ6_numberOfTrailingZeros_0f7a4_49 [.int ((((((x1 ^^^ (-1 : Int32)) &&& (x1 - (1 : Int32))).toUInt32 >>> ((16 : Int32).toUInt32 &&& Int32.toUInt32 31)).toInt32).toUInt32 >>> ((8 : Int32).toUInt32 &&& Int32.toUInt32 31)).toInt32), .int (((1 : Int32) + (16 : Int32)) + (8 : Int32))] [.int (16 : Int32), .int ((((((x1 ^^^ (-1 : Int32)) &&& (x1 - (1 : Int32))).toUInt32 >>> ((16 : Int32).toUInt32 &&& Int32.toUInt32 31)).toInt32).toUInt32 >>> ((8 : Int32).toUInt32 &&& Int32.toUInt32 31)).toInt32)] (sm_hp m) [] rfl (sm_on) ?_
        refine w_icmp_le (tgt := 62) dJ6_numberOfTrailingZeros_0f7a4_52 rfl (fun hc => ?_) (fun hc => ?_)
        · replace hf := sm_ift hc hf
          refine w_blk bJ6_numberOfTrailingZeros_0f7a4_62 [.int ((((((x1 ^^^ (-1 : Int32)) &&& (x1 - (1 : Int32))).toUInt32 >>> ((16 : Int32).toUInt32 &&& Int32.toUInt32 31)).toInt32).toUInt32 >>> ((8 : Int32).toUInt32 &&& Int32.toUInt32 31)).toInt32), .int (((1 : Int32) + (16 : Int32)) + (8 : Int32))] [.int (4 : Int32), .int ((((((x1 ^^^ (-1 : Int32)) &&& (x1 - (1 : Int32))).toUInt32 >>> ((16 : Int32).toUInt32 &&& Int32.toUInt32 31)).toInt32).toUInt32 >>> ((8 : Int32).toUInt32 &&& Int32.toUInt32 31)).toInt32)] (sm_hp m) [] rfl (sm_on) ?_
          refine w_icmp_le (tgt := 74) dJ6_numberOfTrailingZeros_0f7a4_64 rfl (fun hc => ?_) (fun hc => ?_)
          · replace hf := sm_ift hc hf
            refine w_blk bJ6_numberOfTrailingZeros_0f7a4_74 [.int ((((((x1 ^^^ (-1 : Int32)) &&& (x1 - (1 : Int32))).toUInt32 >>> ((16 : Int32).toUInt32 &&& Int32.toUInt32 31)).toInt32).toUInt32 >>> ((8 : Int32).toUInt32 &&& Int32.toUInt32 31)).toInt32), .int (((1 : Int32) + (16 : Int32)) + (8 : Int32))] [.int ((((1 : Int32) + (16 : Int32)) + (8 : Int32)) + ((((((((x1 ^^^ (-1 : Int32)) &&& (x1 - (1 : Int32))).toUInt32 >>> ((16 : Int32).toUInt32 &&& Int32.toUInt32 31)).toInt32).toUInt32 >>> ((8 : Int32).toUInt32 &&& Int32.toUInt32 31)).toInt32).toUInt32 >>> ((1 : Int32).toUInt32 &&& Int32.toUInt32 31)).toInt32))] (sm_hp m) [] rfl (sm_on) ?_
            obtain rfl := Option.some.inj hf
            exact w_reti dJ6_numberOfTrailingZeros_0f7a4_79 rfl rfl
          · replace hf := sm_iff hc hf
            refine w_blk bJ6_numberOfTrailingZeros_0f7a4_67 [.int ((((((((x1 ^^^ (-1 : Int32)) &&& (x1 - (1 : Int32))).toUInt32 >>> ((16 : Int32).toUInt32 &&& Int32.toUInt32 31)).toInt32).toUInt32 >>> ((8 : Int32).toUInt32 &&& Int32.toUInt32 31)).toInt32).toUInt32 >>> ((2 : Int32).toUInt32 &&& Int32.toUInt32 31)).toInt32), .int ((((1 : Int32) + (16 : Int32)) + (8 : Int32)) + (2 : Int32))] [] (sm_hp m) [] rfl (sm_on) ?_
            refine w_blk bJ6_numberOfTrailingZeros_0f7a4_74 [.int ((((((((x1 ^^^ (-1 : Int32)) &&& (x1 - (1 : Int32))).toUInt32 >>> ((16 : Int32).toUInt32 &&& Int32.toUInt32 31)).toInt32).toUInt32 >>> ((8 : Int32).toUInt32 &&& Int32.toUInt32 31)).toInt32).toUInt32 >>> ((2 : Int32).toUInt32 &&& Int32.toUInt32 31)).toInt32), .int ((((1 : Int32) + (16 : Int32)) + (8 : Int32)) + (2 : Int32))] [.int (((((1 : Int32) + (16 : Int32)) + (8 : Int32)) + (2 : Int32)) + ((((((((((x1 ^^^ (-1 : Int32)) &&& (x1 - (1 : Int32))).toUInt32 >>> ((16 : Int32).toUInt32 &&& Int32.toUInt32 31)).toInt32).toUInt32 >>> ((8 : Int32).toUInt32 &&& Int32.toUInt32 31)).toInt32).toUInt32 >>> ((2 : Int32).toUInt32 &&& Int32.toUInt32 31)).toInt32).toUInt32 >>> ((1 : Int32).toUInt32 &&& Int32.toUInt32 31)).toInt32))] (sm_hp m) [] rfl (sm_on) ?_
            obtain rfl := Option.some.inj hf
            exact w_reti dJ6_numberOfTrailingZeros_0f7a4_79 rfl rfl
        · replace hf := sm_iff hc hf
          refine w_blk bJ6_numberOfTrailingZeros_0f7a4_55 [.int ((((((((x1 ^^^ (-1 : Int32)) &&& (x1 - (1 : Int32))).toUInt32 >>> ((16 : Int32).toUInt32 &&& Int32.toUInt32 31)).toInt32).toUInt32 >>> ((8 : Int32).toUInt32 &&& Int32.toUInt32 31)).toInt32).toUInt32 >>> ((4 : Int32).toUInt32 &&& Int32.toUInt32 31)).toInt32), .int ((((1 : Int32) + (16 : Int32)) + (8 : Int32)) + (4 : Int32))] [] (sm_hp m) [] rfl (sm_on) ?_
          refine w_blk bJ6_numberOfTrailingZeros_0f7a4_62 [.int ((((((((x1 ^^^ (-1 : Int32)) &&& (x1 - (1 : Int32))).toUInt32 >>> ((16 : Int32).toUInt32 &&& Int32.toUInt32 31)).toInt32).toUInt32 >>> ((8 : Int32).toUInt32 &&& Int32.toUInt32 31)).toInt32).toUInt32 >>> ((4 : Int32).toUInt32 &&& Int32.toUInt32 31)).toInt32), .int ((((1 : Int32) + (16 : Int32)) + (8 : Int32)) + (4 : Int32))] [.int (4 : Int32), .int ((((((((x1 ^^^ (-1 : Int32)) &&& (x1 - (1 : Int32))).toUInt32 >>> ((16 : Int32).toUInt32 &&& Int32.toUInt32 31)).toInt32).toUInt32 >>> ((8 : Int32).toUInt32 &&& Int32.toUInt32 31)).toInt32).toUInt32 >>> ((4 : Int32).toUInt32 &&& Int32.toUInt32 31)).toInt32)] (sm_hp m) [] rfl (sm_on) ?_
          refine w_icmp_le (tgt := 74) dJ6_numberOfTrailingZeros_0f7a4_64 rfl (fun hc => ?_) (fun hc => ?_)
          · replace hf := sm_ift hc hf
            refine w_blk bJ6_numberOfTrailingZeros_0f7a4_74 [.int ((((((((x1 ^^^ (-1 : Int32)) &&& (x1 - (1 : Int32))).toUInt32 >>> ((16 : Int32).toUInt32 &&& Int32.toUInt32 31)).toInt32).toUInt32 >>> ((8 : Int32).toUInt32 &&& Int32.toUInt32 31)).toInt32).toUInt32 >>> ((4 : Int32).toUInt32 &&& Int32.toUInt32 31)).toInt32), .int ((((1 : Int32) + (16 : Int32)) + (8 : Int32)) + (4 : Int32))] [.int (((((1 : Int32) + (16 : Int32)) + (8 : Int32)) + (4 : Int32)) + ((((((((((x1 ^^^ (-1 : Int32)) &&& (x1 - (1 : Int32))).toUInt32 >>> ((16 : Int32).toUInt32 &&& Int32.toUInt32 31)).toInt32).toUInt32 >>> ((8 : Int32).toUInt32 &&& Int32.toUInt32 31)).toInt32).toUInt32 >>> ((4 : Int32).toUInt32 &&& Int32.toUInt32 31)).toInt32).toUInt32 >>> ((1 : Int32).toUInt32 &&& Int32.toUInt32 31)).toInt32))] (sm_hp m) [] rfl (sm_on) ?_
            obtain rfl := Option.some.inj hf
            exact w_reti dJ6_numberOfTrailingZeros_0f7a4_79 rfl rfl
          · replace hf := sm_iff hc hf
            refine w_blk bJ6_numberOfTrailingZeros_0f7a4_67 [.int ((((((((((x1 ^^^ (-1 : Int32)) &&& (x1 - (1 : Int32))).toUInt32 >>> ((16 : Int32).toUInt32 &&& Int32.toUInt32 31)).toInt32).toUInt32 >>> ((8 : Int32).toUInt32 &&& Int32.toUInt32 31)).toInt32).toUInt32 >>> ((4 : Int32).toUInt32 &&& Int32.toUInt32 31)).toInt32).toUInt32 >>> ((2 : Int32).toUInt32 &&& Int32.toUInt32 31)).toInt32), .int (((((1 : Int32) + (16 : Int32)) + (8 : Int32)) + (4 : Int32)) + (2 : Int32))] [] (sm_hp m) [] rfl (sm_on) ?_
            refine w_blk bJ6_numberOfTrailingZeros_0f7a4_74 [.int ((((((((((x1 ^^^ (-1 : Int32)) &&& (x1 - (1 : Int32))).toUInt32 >>> ((16 : Int32).toUInt32 &&& Int32.toUInt32 31)).toInt32).toUInt32 >>> ((8 : Int32).toUInt32 &&& Int32.toUInt32 31)).toInt32).toUInt32 >>> ((4 : Int32).toUInt32 &&& Int32.toUInt32 31)).toInt32).toUInt32 >>> ((2 : Int32).toUInt32 &&& Int32.toUInt32 31)).toInt32), .int (((((1 : Int32) + (16 : Int32)) + (8 : Int32)) + (4 : Int32)) + (2 : Int32))] [.int ((((((1 : Int32) + (16 : Int32)) + (8 : Int32)) + (4 : Int32)) + (2 : Int32)) + ((((((((((((x1 ^^^ (-1 : Int32)) &&& (x1 - (1 : Int32))).toUInt32 >>> ((16 : Int32).toUInt32 &&& Int32.toUInt32 31)).toInt32).toUInt32 >>> ((8 : Int32).toUInt32 &&& Int32.toUInt32 31)).toInt32).toUInt32 >>> ((4 : Int32).toUInt32 &&& Int32.toUInt32 31)).toInt32).toUInt32 >>> ((2 : Int32).toUInt32 &&& Int32.toUInt32 31)).toInt32).toUInt32 >>> ((1 : Int32).toUInt32 &&& Int32.toUInt32 31)).toInt32))] (sm_hp m) [] rfl (sm_on) ?_
            obtain rfl := Option.some.inj hf
            exact w_reti dJ6_numberOfTrailingZeros_0f7a4_79 rfl rfl
  · replace hf := sm_iff hc hf
    refine w_blk bJ6_numberOfTrailingZeros_0f7a4_12 [.int ((x1 ^^^ (-1 : Int32)) &&& (x1 - (1 : Int32))), .retAddr 0] [.int (((x1 ^^^ (-1 : Int32)) &&& (x1 - (1 : Int32))) &&& (32 : Int32))] (sm_hp m) [] rfl (sm_on) ?_
    obtain rfl := Option.some.inj hf
    exact w_reti dJ6_numberOfTrailingZeros_0f7a4_16 rfl rfl
set_option maxRecDepth 10000 in
theorem tX12_isLessRow_2 {l : Launch} {al : Bool} : ∀ (n : Nat) (v1 : Int32) (m : sm_S) (r : Int32), fX12_isLessRow_2 n v1 m = some r → sm_W l mX12_isLessRow 1 al (some (.int r), sm_hp m) 2 [.ref 72, .int v1] [] (sm_hp m) := by
  intro n
  induction n with
  | zero =>
    intro v1 m r hf
    unfold fX12_isLessRow_2 at hf
    cases hf
  | succ n ih =>
    intro v1 m r hf
    unfold fX12_isLessRow_2 at hf
    refine w_blk bX12_isLessRow_2 [.ref 72, .int v1] [.int (m.1 72 42), .int v1] (sm_hp m) [] rfl (sm_on) ?_
    refine w_icmp_ge (tgt := 52) dX12_isLessRow_7 rfl (fun hc => ?_) (fun hc => ?_)
    · replace hf := sm_ift hc hf
      refine w_blk bX12_isLessRow_52 [.ref 72, .int v1] [.int (0 : Int32)] (sm_hp m) [] rfl (sm_on) ?_
      obtain rfl := Option.some.inj hf
      exact w_reti dX12_isLessRow_53 rfl sm_nb0
    · replace hf := sm_iff hc hf
      replace hf := sm_ck hf
      obtain ⟨q1, hf⟩ := hf
      replace hf := sm_ck hf
      obtain ⟨q2, hf⟩ := hf
      refine w_blk bX12_isLessRow_10 [.ref 72, .int v1] [.int (m.1 97 (v1).toNatClampNeg), .int (m.1 96 (v1).toNatClampNeg)] (sm_hp m) [(v1, 10), (v1, 10)] rfl (sm_oc q1 (sm_oc q2 (sm_on))) ?_
      refine w_icmp_eq (tgt := 46) dX12_isLessRow_22 rfl (fun hc => ?_) (fun hc => ?_)
      · replace hf := sm_ift hc hf
        refine w_blk bX12_isLessRow_46 [.ref 72, .int (v1 + (1 : Int32))] [] (sm_hp m) [] rfl (sm_on) ?_
        refine w_goto (tgt := 2) dX12_isLessRow_49 rfl ?_
        exact ih (v1 + (1 : Int32)) m r hf
      · replace hf := sm_iff hc hf
        replace hf := sm_ck hf
        obtain ⟨q3, hf⟩ := hf
        replace hf := sm_ck hf
        obtain ⟨q4, hf⟩ := hf
        refine w_blk bX12_isLessRow_25 [.ref 72, .int v1] [.int (m.1 97 (v1).toNatClampNeg), .int (m.1 96 (v1).toNatClampNeg)] (sm_hp m) [(v1, 10), (v1, 10)] rfl (sm_oc q3 (sm_oc q4 (sm_on))) ?_
        refine w_icmp_ge (tgt := 44) dX12_isLessRow_37 rfl (fun hc => ?_) (fun hc => ?_)
        · replace hf := sm_ift hc hf
          refine w_blk bX12_isLessRow_44 [.ref 72, .int v1] [.int (0 : Int32)] (sm_hp m) [] rfl (sm_on) ?_
          obtain rfl := Option.some.inj hf
          exact w_reti dX12_isLessRow_45 rfl sm_nb0
        · replace hf := sm_iff hc hf
          refine w_blk bX12_isLessRow_40 [.ref 72, .int v1] [.int (1 : Int32)] (sm_hp m) [] rfl (sm_on) ?_
          refine w_goto (tgt := 45) dX12_isLessRow_41 rfl ?_
          obtain rfl := Option.some.inj hf
          exact w_reti dX12_isLessRow_45 rfl sm_nb1
set_option maxRecDepth 10000 in
theorem tX12_isLessRow {l : Launch} {al : Bool} (m : sm_S) (r : Int32) (hf : fX12_isLessRow m = some r) : sm_Rt l mX12_isLessRow 1 0 0 al al [.ref 72] (sm_hp m) (some (.int r), sm_hp m) := by
  refine sm_Rt.ofW (L := [.ref 72, .retAddr 0]) (by decide) (Nat.le_of_ble_eq_true rfl) rfl ?_
  unfold fX12_isLessRow at hf
  refine w_blk bX12_isLessRow_0 [.ref 72, .int (0 : Int32)] [] (sm_hp m) [] rfl (sm_on) ?_
  exact tX12_isLessRow_2 sm_fu (0 : Int32) m r hf
set_option maxRecDepth 10000 in
theorem tX12_couples_118 {l : Launch} {al : Bool} {n0 : Nat} (rec : Int32 → Int32 → Int32 → sm_S → Option sm_S) (hrec : ∀ (x1 x2 x3 : Int32) (m r : sm_S), rec x1 x2 x3 m = some r → sm_Rt l mX12_couples (2 + n0) 0 0 al al [.ref 72, .int x1, .int x2, .int x3] (sm_hp m) (none, sm_hp r)) : ∀ (n : Nat) (v2 : Int32) (v3 : Int32) (v4 : Int32) (v5 : Int32) (v6 : Int32) (m : sm_S) (r : sm_S), fX12_couples_118 rec n v2 v3 v4 v5 v6 m = some r → sm_W l mX12_couples (2 + (n0 + 1)) al (none, sm_hp r) 118 [.ref 72, .retAddr 0, .int v2, .int v3, .int v4, .int v5, .int v6] [] (sm_hp m) := by
  intro n
  induction n with
  | zero =>
    intro v2 v3 v4 v5 v6 m r hf
    unfold fX12_couples_118 at hf
    cases hf
  | succ n ih =>
    intro v2 v3 v4 v5 v6 m r hf
    unfold fX12_couples_118 at hf
    refine w_blk bX12_couples_118 [.ref 72, .retAddr 0, .int v2, .int v3, .int v4, .int v5, .int v6] [.int (m.1 72 3), .int v6] (sm_hp m) [] rfl (sm_on) ?_
    refine w_icmp_ge (tgt := 211) dX12_couples_124 rfl (fun hc => ?_) (fun hc => ?_)
    · replace hf := sm_ift hc hf
      refine w_blk bX12_couples_211 [.ref 72, .retAddr 0, .int v2, .int v3, .int v4, .int v5, .int v6] [.int v2] (sm_hp m) [] rfl (sm_on) ?_
      refine w_if_le (tgt := 225) dX12_couples_212 rfl (fun hc => ?_) (fun hc => ?_)
      · replace hf := sm_ift hc hf
        obtain rfl := Option.some.inj hf
        exact w_retv dX12_couples_225 rfl
      · replace hf := sm_iff hc hf
        refine w_blk bX12_couples_215 [.ref 72, .retAddr 0, .int v2, .int v3, .int v4, .int v5, .int v6] [.int v3, .int (v2 - (1 : Int32)), .int v5, .ref 72] (sm_hp m) [] rfl (sm_on) ?_
        replace hf := sm_bd hf
        obtain ⟨m4, q3, hf⟩ := hf
        refine w_callV [.int v5, .int (v2 - (1 : Int32)), .int v3] [] (hrec v5 (v2 - (1 : Int32)) v3 m m4 q3) (cvX12_316 rfl) dX12_couples_222 rfl rfl (by omega) (by decide) rfl (Nat.le_of_ble_eq_true rfl) ?_
        show sm_W _ _ _ _ _ 225 [.ref 72, .retAddr 0, .int v2, .int v3, .int v4, .int v5, .int v6] [] (sm_hp m4)
        obtain rfl := Option.some.inj hf
        exact w_retv dX12_couples_225 rfl
    · replace hf := sm_iff hc hf
      refine w_blk bX12_couples_127 [.ref 72, .retAddr 0, .int v2, .int v3, .int v4, .int v5, .int v6] [.int v6, .int v5] (sm_hp m) [] rfl (sm_on) ?_
      replace hf := sm_bd hf
      obtain ⟨r6, q5, hf⟩ := hf
      refine w_callS [.int v5, .int v6] [] (tX12_has v5 v6 m r6 q5) (csX12_144 rfl) dX12_couples_131 rfl rfl (by omega) (by decide) (Nat.le_of_ble_eq_true rfl) ?_
      show sm_W _ _ _ _ _ 134 [.ref 72, .retAddr 0, .int v2, .int v3, .int v4, .int v5, .int v6] [.int r6] (sm_hp m)
      refine w_if_eq (tgt := 205) dX12_couples_134 rfl (fun hc => ?_) (fun hc => ?_)
      · replace hf := sm_ift hc hf
        refine w_blk bX12_couples_205 [.ref 72, .retAddr 0, .int v2, .int v3, .int v4, .int v5, .int (v6 + (1 : Int32))] [] (sm_hp m) [] rfl (sm_on) ?_
        refine w_goto (tgt := 118) dX12_couples_208 rfl ?_
        exact ih v2 v3 v4 v5 (v6 + (1 : Int32)) m r hf
      · replace hf := sm_iff hc hf
        replace hf := sm_ck hf
        obtain ⟨q7, hf⟩ := hf
        replace hf := sm_ck hf
        obtain ⟨q8, hf⟩ := hf
        refine w_blk bX12_couples_137 [.ref 72, .retAddr 0, .int v2, .int v3, .int v4, .int v5, .int v6] [.int v6, .int v4, .ref 72, .int v3, .int v2, .int (v5 &&& (((1 : Int32) <<< (v6 &&& 31)) ^^^ (-1 : Int32))), .ref 72] (sm_hp (sm_w1 (sm_w1 (sm_w1 m 96 (m.1 72 42).toNatClampNeg v4) 96 ((m.1 72 42) + (1 : Int32)).toNatClampNeg v6) 72 42 ((m.1 72 42) + (2 : Int32)))) [((m.1 72 42), 10), (((m.1 72 42) + (1 : Int32)), 10)] rfl (sm_oc q7 (sm_oc q8 (sm_on))) ?_
        replace hf := sm_bd hf
        obtain ⟨r10, q9, hf⟩ := hf
        refine w_callV [.int v4, .int v6] [.int v3, .int v2, .int (v5 &&& (((1 : Int32) <<< (v6 &&& 31)) ^^^ (-1 : Int32))), .ref 72] (tX12_grassOf v4 v6 (sm_w1 (sm_w1 (sm_w1 m 96 (m.1 72 42).toNatClampNeg v4) 96 ((m.1 72 42) + (1 : Int32)).toNatClampNeg v6) 72 42 ((m.1 72 42) + (2 : Int32))) r10 q9) (cvX12_160 rfl) dX12_couples_188 rfl rfl (by omega) (by decide) rfl (Nat.le_of_ble_eq_true rfl) ?_
        show sm_W _ _ _ _ _ 191 [.ref 72, .retAddr 0, .int v2, .int v3, .int v4, .int v5, .int v6] [.int r10, .int v3, .int v2, .int (v5 &&& (((1 : Int32) <<< (v6 &&& 31)) ^^^ (-1 : Int32))), .ref 72] (sm_hp (sm_w1 (sm_w1 (sm_w1 m 96 (m.1 72 42).toNatClampNeg v4) 96 ((m.1 72 42) + (1 : Int32)).toNatClampNeg v6) 72 42 ((m.1 72 42) + (2 : Int32))))
        refine w_blk bX12_couples_191 [.ref 72, .retAddr 0, .int v2, .int v3, .int v4, .int v5, .int v6] [.int (v3 + r10), .int v2, .int (v5 &&& (((1 : Int32) <<< (v6 &&& 31)) ^^^ (-1 : Int32))), .ref 72] (sm_hp (sm_w1 (sm_w1 (sm_w1 m 96 (m.1 72 42).toNatClampNeg v4) 96 ((m.1 72 42) + (1 : Int32)).toNatClampNeg v6) 72 42 ((m.1 72 42) + (2 : Int32)))) [] rfl (sm_on) ?_
        replace hf := sm_bd hf
        obtain ⟨m12, q11, hf⟩ := hf
        refine w_callV [.int (v5 &&& (((1 : Int32) <<< (v6 &&& 31)) ^^^ (-1 : Int32))), .int v2, .int (v3 + r10)] [] (hrec (v5 &&& (((1 : Int32) <<< (v6 &&& 31)) ^^^ (-1 : Int32))) v2 (v3 + r10) (sm_w1 (sm_w1 (sm_w1 m 96 (m.1 72 42).toNatClampNeg v4) 96 ((m.1 72 42) + (1 : Int32)).toNatClampNeg v6) 72 42 ((m.1 72 42) + (2 : Int32))) m12 q11) (cvX12_316 rfl) dX12_couples_192 rfl rfl (by omega) (by decide) rfl (Nat.le_of_ble_eq_true rfl) ?_
        show sm_W _ _ _ _ _ 195 [.ref 72, .retAddr 0, .int v2, .int v3, .int v4, .int v5, .int v6] [] (sm_hp m12)
        refine w_blk bX12_couples_195 [.ref 72, .retAddr 0, .int v2, .int v3, .int v4, .int v5, .int v6] [] (sm_hp (sm_w1 m12 72 42 ((m12.1 72 42) - (2 : Int32)))) [] rfl (sm_on) ?_
        refine w_blk bX12_couples_205 [.ref 72, .retAddr 0, .int v2, .int v3, .int v4, .int v5, .int (v6 + (1 : Int32))] [] (sm_hp (sm_w1 m12 72 42 ((m12.1 72 42) - (2 : Int32)))) [] rfl (sm_on) ?_
        refine w_goto (tgt := 118) dX12_couples_208 rfl ?_
        exact ih v2 v3 v4 v5 (v6 + (1 : Int32)) (sm_w1 m12 72 42 ((m12.1 72 42) - (2 : Int32))) r hf
set_option maxRecDepth 10000 in
theorem tX12_couples_66 {l : Launch} {al : Bool} {n0 : Nat} (rec : Int32 → Int32 → Int32 → sm_S → Option sm_S) (hrec : ∀ (x1 x2 x3 : Int32) (m r : sm_S), rec x1 x2 x3 m = some r → sm_Rt l mX12_couples (2 + n0) 0 0 al al [.ref 72, .int x1, .int x2, .int x3] (sm_hp m) (none, sm_hp r)) : ∀ (n : Nat) (v5 : Int32) (m : sm_S) (r : sm_S), fX12_couples_66 rec n v5 m = some r → sm_W l mX12_couples (2 + (n0 + 1)) al (none, sm_hp r) 66 [.ref 72, .retAddr 0, .retAddr 0, .retAddr 0, .retAddr 0, .int v5, .retAddr 0] [] (sm_hp m) := by
  intro n
  induction n with
  | zero =>
    intro v5 m r hf
    unfold fX12_couples_66 at hf
    cases hf
  | succ n ih =>
    intro v5 m r hf
    unfold fX12_couples_66 at hf
    refine w_blk bX12_couples_66 [.ref 72, .retAddr 0, .retAddr 0, .retAddr 0, .retAddr 0, .int v5, .retAddr 0] [.int (m.1 72 42), .int v5] (sm_hp m) [] rfl (sm_on) ?_
    refine w_icmp_ge (tgt := 95) dX12_couples_72 rfl (fun hc => ?_) (fun hc => ?_)
    · replace hf := sm_ift hc hf
      obtain rfl := Option.some.inj hf
      exact w_retv dX12_couples_95 rfl
    · replace hf := sm_iff hc hf
      replace hf := sm_ck hf
      obtain ⟨q13, hf⟩ := hf
      replace hf := sm_ck hf
      obtain ⟨q14, hf⟩ := hf
      refine w_blk bX12_couples_75 [.ref 72, .retAddr 0, .retAddr 0, .retAddr 0, .retAddr 0, .int (v5 + (1 : Int32)), .retAddr 0] [] (sm_hp (sm_w1 m 97 (v5).toNatClampNeg (m.1 96 (v5).toNatClampNeg))) [(v5, 10), (v5, 10)] rfl (sm_oc q13 (sm_oc q14 (sm_on))) ?_
      refine w_goto (tgt := 66) dX12_couples_92 rfl ?_
      exact ih (v5 + (1 : Int32)) (sm_w1 m 97 (v5).toNatClampNeg (m.1 96 (v5).toNatClampNeg)) r hf
set_option maxRecDepth 10000 in
theorem tX12_couplesR {l : Launch} {al : Bool} {n0 : Nat} (rec : Int32 → Int32 → Int32 → sm_S → Option sm_S) (hrec : ∀ (x1 x2 x3 : Int32) (m r : sm_S), rec x1 x2 x3 m = some r → sm_Rt l mX12_couples (2 + n0) 0 0 al al [.ref 72, .int x1, .int x2, .int x3] (sm_hp m) (none, sm_hp r)) (x1 x2 x3 : Int32) (m r : sm_S) (hf : fX12_couplesR rec x1 x2 x3 m = some r) : sm_Rt l mX12_couples (2 + (n0 + 1)) 0 0 al al [.ref 72, .int x1, .int x2, .int x3] (sm_hp m) (none, sm_hp r) := by
  refine sm_Rt.ofW (L := [.ref 72, .int x1, .int x2, .int x3, .retAddr 0, .retAddr 0, .retAddr 0]) (by decide) (Nat.le_of_ble_eq_true rfl) rfl ?_
  unfold fX12_couplesR at hf
  refine w_blk bX12_couples_0 [.ref 72, .int x1, .int x2, .int x3, .retAddr 0, .retAddr 0, .retAddr 0] [.int x1] (sm_hp m) [] rfl (sm_on) ?_
  refine w_if_ne (tgt := 96) dX12_couples_1 rfl (fun hc => ?_) (fun hc => ?_)
  · replace hf := sm_iff hc hf
    refine w_blk bX12_couples_96 [.ref 72, .int x1, .int x2, .int x3, .retAddr 0, .retAddr 0, .retAddr 0] [.int x1] (sm_hp m) [] rfl (sm_on) ?_
    replace hf := sm_bd hf
    obtain ⟨r2, q1, hf⟩ := hf
    refine w_callS [.int x1] [] (tJ6_numberOfTrailingZeros_0f7a4 x1 m r2 q1) (csX12_313 rfl) dX12_couples_97 rfl rfl (by omega) (by decide) (Nat.le_of_ble_eq_true rfl) ?_
    show sm_W _ _ _ _ _ 100 [.ref 72, .int x1, .int x2, .int x3, .retAddr 0, .retAddr 0, .retAddr 0] [.int r2] (sm_hp m)
    refine w_blk bX12_couples_100 [.ref 72, .int x1, .int x2, .int x3, .int r2, .int (x1 &&& (((1 : Int32) <<< (r2 &&& 31)) ^^^ (-1 : Int32))), .int (r2 + (1 : Int32))] [] (sm_hp m) [] rfl (sm_on) ?_
    refine w_wk [true, false, true, true, true, true, true] ?_
    exact tX12_couples_118 rec hrec sm_fu x2 x3 r2 (x1 &&& (((1 : Int32) <<< (r2 &&& 31)) ^^^ (-1 : Int32))) (r2 + (1 : Int32)) m r hf
  · replace hf := sm_ift hc hf
    refine w_blk bX12_couples_4 [.ref 72, .int x1, .int x2, .int x3, .retAddr 0, .retAddr 0, .retAddr 0] [.int x2] (sm_hp m) [] rfl (sm_on) ?_
    refine w_if_ne (tgt := 42) dX12_couples_5 rfl (fun hc => ?_) (fun hc => ?_)
    · replace hf := sm_iff hc hf
      refine w_blk bX12_couples_42 [.ref 72, .int x1, .int x2, .int x3, .retAddr 0, .retAddr 0, .retAddr 0] [.int (0 : Int32)] (sm_hp m) [] rfl (sm_on) ?_
      refine w_blk bX12_couples_43 [.ref 72, .int x1, .int x2, .int x3, .int (0 : Int32), .retAddr 0, .retAddr 0] [.int (0 : Int32)] (sm_hp m) [] rfl (sm_on) ?_
      refine w_if_eq (tgt := 95) dX12_couples_47 rfl (fun _ => ?_) (fun hc => absurd hc (by decide))
      obtain rfl := Option.some.inj hf
      exact w_retv dX12_couples_95 rfl
    · replace hf := sm_ift hc hf
      refine w_blk bX12_couples_8 [.ref 72, .int x1, .int x2, .int x3, .retAddr 0, .retAddr 0, .retAddr 0] [.int (m.1 72 46)] (sm_hp m) [] rfl (sm_on) ?_
      refine w_if_lt (tgt := 38) dX12_couples_12 rfl (fun hc => ?_) (fun hc => ?_)
      · replace hf := sm_ift hc hf
        refine w_blk bX12_couples_38 [.ref 72, .int x1, .int x2, .int x3, .retAddr 0, .retAddr 0, .retAddr 0] [.int (1 : Int32)] (sm_hp m) [] rfl (sm_on) ?_
        refine w_goto (tgt := 43) dX12_couples_39 rfl ?_
        refine w_blk bX12_couples_43 [.ref 72, .int x1, .int x2, .int x3, .int (1 : Int32), .retAddr 0, .retAddr 0] [.int (1 : Int32)] (sm_hp m) [] rfl (sm_on) ?_
        refine w_if_eq (tgt := 95) dX12_couples_47 rfl (fun hc => absurd hc (by decide)) (fun _ => ?_)
        refine w_blk bX12_couples_50 [.ref 72, .int x1, .int x2, .int x3, .int (1 : Int32), .int (0 : Int32), .retAddr 0] [] (sm_hp (sm_w1 (sm_w1 m 72 46 x3) 72 45 (m.1 72 42))) [] rfl (sm_on) ?_
        refine w_wk [true, false, false, false, false, true, false] ?_
        exact tX12_couples_66 rec hrec sm_fu (0 : Int32) (sm_w1 (sm_w1 m 72 46 x3) 72 45 (m.1 72 42)) r hf
      · replace hf := sm_iff hc hf
        refine w_blk bX12_couples_15 [.ref 72, .int x1, .int x2, .int x3, .retAddr 0, .retAddr 0, .retAddr 0] [.int (m.1 72 46), .int x3] (sm_hp m) [] rfl (sm_on) ?_
        refine w_icmp_lt (tgt := 38) dX12_couples_20 rfl (fun hc => ?_) (fun hc => ?_)
        · replace hf := sm_ift hc hf
          refine w_blk bX12_couples_38 [.ref 72, .int x1, .int x2, .int x3, .retAddr 0, .retAddr 0, .retAddr 0] [.int (1 : Int32)] (sm_hp m) [] rfl (sm_on) ?_
          refine w_goto (tgt := 43) dX12_couples_39 rfl ?_
          refine w_blk bX12_couples_43 [.ref 72, .int x1, .int x2, .int x3, .int (1 : Int32), .retAddr 0, .retAddr 0] [.int (1 : Int32)] (sm_hp m) [] rfl (sm_on) ?_
          refine w_if_eq (tgt := 95) dX12_couples_47 rfl (fun hc => absurd hc (by decide)) (fun _ => ?_)
          refine w_blk bX12_couples_50 [.ref 72, .int x1, .int x2, .int x3, .int (1 : Int32), .int (0 : Int32), .retAddr 0] [] (sm_hp (sm_w1 (sm_w1 m 72 46 x3) 72 45 (m.1 72 42))) [] rfl (sm_on) ?_
          refine w_wk [true, false, false, false, false, true, false] ?_
          exact tX12_couples_66 rec hrec sm_fu (0 : Int32) (sm_w1 (sm_w1 m 72 46 x3) 72 45 (m.1 72 42)) r hf
        · replace hf := sm_iff hc hf
          refine w_blk bX12_couples_23 [.ref 72, .int x1, .int x2, .int x3, .retAddr 0, .retAddr 0, .retAddr 0] [.int (m.1 72 46), .int x3] (sm_hp m) [] rfl (sm_on) ?_
          refine w_icmp_ne (tgt := 42) dX12_couples_28 rfl (fun hc => ?_) (fun hc => ?_)
          · replace hf := sm_iff hc hf
            refine w_blk bX12_couples_42 [.ref 72, .int x1, .int x2, .int x3, .retAddr 0, .retAddr 0, .retAddr 0] [.int (0 : Int32)] (sm_hp m) [] rfl (sm_on) ?_
            refine w_blk bX12_couples_43 [.ref 72, .int x1, .int x2, .int x3, .int (0 : Int32), .retAddr 0, .retAddr 0] [.int (0 : Int32)] (sm_hp m) [] rfl (sm_on) ?_
            refine w_if_eq (tgt := 95) dX12_couples_47 rfl (fun _ => ?_) (fun hc => absurd hc (by decide))
            obtain rfl := Option.some.inj hf
            exact w_retv dX12_couples_95 rfl
          · replace hf := sm_ift hc hf
            refine w_blk bX12_couples_31 [.ref 72, .int x1, .int x2, .int x3, .retAddr 0, .retAddr 0, .retAddr 0] [.ref 72] (sm_hp m) [] rfl (sm_on) ?_
            replace hf := sm_bd hf
            obtain ⟨r16, q15, hf⟩ := hf
            refine w_callV [] [] (tX12_isLessRow m r16 q15) (cvX12_307 rfl) dX12_couples_32 rfl rfl (by omega) (by decide) rfl (Nat.le_of_ble_eq_true rfl) ?_
            show sm_W _ _ _ _ _ 35 [.ref 72, .int x1, .int x2, .int x3, .retAddr 0, .retAddr 0, .retAddr 0] [.int r16] (sm_hp m)
            refine w_if_eq (tgt := 42) dX12_couples_35 rfl (fun hc => ?_) (fun hc => ?_)
            · replace hf := sm_ift hc hf
              refine w_blk bX12_couples_42 [.ref 72, .int x1, .int x2, .int x3, .retAddr 0, .retAddr 0, .retAddr 0] [.int (0 : Int32)] (sm_hp m) [] rfl (sm_on) ?_
              refine w_blk bX12_couples_43 [.ref 72, .int x1, .int x2, .int x3, .int (0 : Int32), .retAddr 0, .retAddr 0] [.int (0 : Int32)] (sm_hp m) [] rfl (sm_on) ?_
              refine w_if_eq (tgt := 95) dX12_couples_47 rfl (fun _ => ?_) (fun hc => absurd hc (by decide))
              obtain rfl := Option.some.inj hf
              exact w_retv dX12_couples_95 rfl
            · replace hf := sm_iff hc hf
              refine w_blk bX12_couples_38 [.ref 72, .int x1, .int x2, .int x3, .retAddr 0, .retAddr 0, .retAddr 0] [.int (1 : Int32)] (sm_hp m) [] rfl (sm_on) ?_
              refine w_goto (tgt := 43) dX12_couples_39 rfl ?_
              refine w_blk bX12_couples_43 [.ref 72, .int x1, .int x2, .int x3, .int (1 : Int32), .retAddr 0, .retAddr 0] [.int (1 : Int32)] (sm_hp m) [] rfl (sm_on) ?_
              refine w_if_eq (tgt := 95) dX12_couples_47 rfl (fun hc => absurd hc (by decide)) (fun _ => ?_)
              refine w_blk bX12_couples_50 [.ref 72, .int x1, .int x2, .int x3, .int (1 : Int32), .int (0 : Int32), .retAddr 0] [] (sm_hp (sm_w1 (sm_w1 m 72 46 x3) 72 45 (m.1 72 42))) [] rfl (sm_on) ?_
              refine w_wk [true, false, false, false, false, true, false] ?_
              exact tX12_couples_66 rec hrec sm_fu (0 : Int32) (sm_w1 (sm_w1 m 72 46 x3) 72 45 (m.1 72 42)) r hf
theorem tX12_couplesN {l : Launch} {al : Bool} : ∀ (n : Nat) (x1 x2 x3 : Int32) (m r : sm_S), fX12_couplesN n x1 x2 x3 m = some r → sm_Rt l mX12_couples (2 + n) 0 0 al al [.ref 72, .int x1, .int x2, .int x3] (sm_hp m) (none, sm_hp r) := by
  intro n
  induction n with
  | zero => intro x1 x2 x3 m r hf; cases hf
  | succ n ih => intro x1 x2 x3 m r hf; exact tX12_couplesR (fX12_couplesN n) ih x1 x2 x3 m r hf
theorem tX12_couples {l : Launch} {al : Bool} (x1 : Int32) (x2 : Int32) (x3 : Int32) (m : sm_S) (r : sm_S) (hf : fX12_couples x1 x2 x3 m = some r) : sm_Rt l mX12_couples 14 0 0 al al [.ref 72, .int x1, .int x2, .int x3] (sm_hp m) (none, sm_hp r) := tX12_couplesN 12 x1 x2 x3 m r hf
set_option maxRecDepth 10000 in
theorem tX12_pairsBy_51 {l : Launch} {al : Bool} : ∀ (n : Nat) (v3 : Int32) (m : sm_S) (r : Int32 × sm_S), fX12_pairsBy_51 n v3 m = some r → sm_W l mX12_pairsBy 15 al (some (.int r.1), sm_hp r.2) 51 [.ref 72, .retAddr 0, .retAddr 0, .int v3] [] (sm_hp m) := by
  intro n
  induction n with
  | zero =>
    intro v3 m r hf
    unfold fX12_pairsBy_51 at hf
    cases hf
  | succ n ih =>
    intro v3 m r hf
    unfold fX12_pairsBy_51 at hf
    refine w_blk bX12_pairsBy_51 [.ref 72, .retAddr 0, .retAddr 0, .int v3] [.int (m.1 72 45), .int v3] (sm_hp m) [] rfl (sm_on) ?_
    refine w_icmp_ge (tgt := 75) dX12_pairsBy_56 rfl (fun hc => ?_) (fun hc => ?_)
    · replace hf := sm_ift hc hf
      refine w_blk bX12_pairsBy_75 [.ref 72, .retAddr 0, .retAddr 0, .int v3] [.int (m.1 72 46)] (sm_hp m) [] rfl (sm_on) ?_
      obtain rfl := Option.some.inj hf
      exact w_reti dX12_pairsBy_79 rfl rfl
    · replace hf := sm_iff hc hf
      replace hf := sm_ck hf
      obtain ⟨q9, hf⟩ := hf
      refine w_blk bX12_pairsBy_59 [.ref 72, .retAddr 0, .retAddr 0, .int v3] [.int (m.1 97 (v3).toNatClampNeg), .ref 72] (sm_hp m) [(v3, 10)] rfl (sm_oc q9 (sm_on)) ?_
      replace hf := sm_bd hf
      obtain ⟨m11, q10, hf⟩ := hf
      refine w_callV [.int (m.1 97 (v3).toNatClampNeg)] [] (tX12_enters (m.1 97 (v3).toNatClampNeg) m m11 q10) (cvX12_229 rfl) dX12_pairsBy_66 rfl rfl (by decide) (by decide) rfl (Nat.le_of_ble_eq_true rfl) ?_
      show sm_W _ _ _ _ _ 69 [.ref 72, .retAddr 0, .retAddr 0, .int v3] [] (sm_hp m11)
      refine w_blk bX12_pairsBy_69 [.ref 72, .retAddr 0, .retAddr 0, .int (v3 + (1 : Int32))] [] (sm_hp m11) [] rfl (sm_on) ?_
      refine w_goto (tgt := 51) dX12_pairsBy_72 rfl ?_
      exact ih (v3 + (1 : Int32)) m11 r hf
set_option maxRecDepth 10000 in
theorem tX12_pairsBy {l : Launch} {al : Bool} (x1 : Int32) (m : sm_S) (r : Int32 × sm_S) (hf : fX12_pairsBy x1 m = some r) : sm_Rt l mX12_pairsBy 15 0 0 al al [.ref 72, .int x1] (sm_hp m) (some (.int r.1), sm_hp r.2) := by
  refine sm_Rt.ofW (L := [.ref 72, .int x1, .retAddr 0, .retAddr 0]) (by decide) (Nat.le_of_ble_eq_true rfl) rfl ?_
  unfold fX12_pairsBy at hf
  refine w_blk bX12_pairsBy_0 [.ref 72, .int x1, .retAddr 0, .retAddr 0] [.ref 72] (sm_hp m) [] rfl (sm_on) ?_
  replace hf := sm_bd hf
  obtain ⟨r2, q1, hf⟩ := hf
  refine w_callV [] [] (tX12_hangTogether m r2 q1) (cvX12_289 rfl) dX12_pairsBy_1 rfl rfl (by decide) (by decide) rfl (Nat.le_of_ble_eq_true rfl) ?_
  show sm_W _ _ _ _ _ 4 [.ref 72, .int x1, .retAddr 0, .retAddr 0] [.int r2.1] (sm_hp r2.2)
  refine w_if_ne (tgt := 10) dX12_pairsBy_4 rfl (fun hc => ?_) (fun hc => ?_)
  · replace hf := sm_iff hc hf
    refine w_blk bX12_pairsBy_10 [.ref 72, .int x1, .retAddr 0, .retAddr 0] [.ref 72, .ref 72] (sm_hp (sm_w1 (sm_w1 r2.2 72 46 (-1 : Int32)) 72 42 (0 : Int32))) [] rfl (sm_on) ?_
    replace hf := sm_bd hf
    obtain ⟨r4, q3, hf⟩ := hf
    refine w_callV [] [.ref 72] (tX12_allHedges (sm_w1 (sm_w1 r2.2 72 46 (-1 : Int32)) 72 42 (0 : Int32)) r4 q3) (cvX12_266 rfl) dX12_pairsBy_22 rfl rfl (by decide) (by decide) rfl (Nat.le_of_ble_eq_true rfl) ?_
    show sm_W _ _ _ _ _ 25 [.ref 72, .int x1, .retAddr 0, .retAddr 0] [.int r4, .ref 72] (sm_hp (sm_w1 (sm_w1 r2.2 72 46 (-1 : Int32)) 72 42 (0 : Int32)))
    replace hf := sm_bd hf
    obtain ⟨r6, q5, hf⟩ := hf
    refine w_callV [.int r4] [] (tX12_oddOf r4 (sm_w1 (sm_w1 r2.2 72 46 (-1 : Int32)) 72 42 (0 : Int32)) r6 q5) (cvX12_269 rfl) dX12_pairsBy_25 rfl rfl (by decide) (by decide) rfl (Nat.le_of_ble_eq_true rfl) ?_
    show sm_W _ _ _ _ _ 28 [.ref 72, .int x1, .retAddr 0, .retAddr 0] [.int r6] (sm_hp (sm_w1 (sm_w1 r2.2 72 46 (-1 : Int32)) 72 42 (0 : Int32)))
    refine w_blk bX12_pairsBy_28 [.ref 72, .int x1, .int r6, .retAddr 0] [.int r6, .int r6, .ref 72] (sm_hp (sm_w1 (sm_w1 r2.2 72 46 (-1 : Int32)) 72 42 (0 : Int32))) [] rfl (sm_on) ?_
    refine w_if_ne (tgt := 39) dX12_pairsBy_32 rfl (fun hc => ?_) (fun hc => ?_)
    · replace hf := sm_iff hc hf
      refine w_blk bX12_pairsBy_39 [.ref 72, .int x1, .int r6, .retAddr 0] [.int x1, .int r6, .ref 72] (sm_hp (sm_w1 (sm_w1 r2.2 72 46 (-1 : Int32)) 72 42 (0 : Int32))) [] rfl (sm_on) ?_
      refine w_blk bX12_pairsBy_40 [.ref 72, .int x1, .int r6, .retAddr 0] [.int (0 : Int32), .int x1, .int r6, .ref 72] (sm_hp (sm_w1 (sm_w1 r2.2 72 46 (-1 : Int32)) 72 42 (0 : Int32))) [] rfl (sm_on) ?_
      replace hf := sm_bd hf
      obtain ⟨m8, q7, hf⟩ := hf
      refine w_callV [.int r6, .int x1, .int (0 : Int32)] [] (tX12_couples r6 x1 (0 : Int32) (sm_w1 (sm_w1 r2.2 72 46 (-1 : Int32)) 72 42 (0 : Int32)) m8 q7) (cvX12_316 rfl) dX12_pairsBy_41 rfl rfl (by decide) (by decide) rfl (Nat.le_of_ble_eq_true rfl) ?_
      show sm_W _ _ _ _ _ 44 [.ref 72, .int x1, .int r6, .retAddr 0] [] (sm_hp m8)
      refine w_blk bX12_pairsBy_44 [.ref 72, .int x1, .int r6, .int (0 : Int32)] [] (sm_hp (sm_w1 m8 72 1 (0 : Int32))) [] rfl (sm_on) ?_
      refine w_wk [true, false, false, true] ?_
      exact tX12_pairsBy_51 sm_fu (0 : Int32) (sm_w1 m8 72 1 (0 : Int32)) r hf
    · replace hf := sm_ift hc hf
      refine w_blk bX12_pairsBy_35 [.ref 72, .int x1, .int r6, .retAddr 0] [.int (0 : Int32), .int r6, .ref 72] (sm_hp (sm_w1 (sm_w1 r2.2 72 46 (-1 : Int32)) 72 42 (0 : Int32))) [] rfl (sm_on) ?_
      refine w_goto (tgt := 40) dX12_pairsBy_36 rfl ?_
      refine w_blk bX12_pairsBy_40 [.ref 72, .int x1, .int r6, .retAddr 0] [.int (0 : Int32), .int (0 : Int32), .int r6, .ref 72] (sm_hp (sm_w1 (sm_w1 r2.2 72 46 (-1 : Int32)) 72 42 (0 : Int32))) [] rfl (sm_on) ?_
      replace hf := sm_bd hf
      obtain ⟨m13, q12, hf⟩ := hf
      refine w_callV [.int r6, .int (0 : Int32), .int (0 : Int32)] [] (tX12_couples r6 (0 : Int32) (0 : Int32) (sm_w1 (sm_w1 r2.2 72 46 (-1 : Int32)) 72 42 (0 : Int32)) m13 q12) (cvX12_316 rfl) dX12_pairsBy_41 rfl rfl (by decide) (by decide) rfl (Nat.le_of_ble_eq_true rfl) ?_
      show sm_W _ _ _ _ _ 44 [.ref 72, .int x1, .int r6, .retAddr 0] [] (sm_hp m13)
      refine w_blk bX12_pairsBy_44 [.ref 72, .int x1, .int r6, .int (0 : Int32)] [] (sm_hp (sm_w1 m13 72 1 (0 : Int32))) [] rfl (sm_on) ?_
      refine w_wk [true, false, false, true] ?_
      exact tX12_pairsBy_51 sm_fu (0 : Int32) (sm_w1 m13 72 1 (0 : Int32)) r hf
  · replace hf := sm_ift hc hf
    refine w_blk bX12_pairsBy_7 [.ref 72, .int x1, .retAddr 0, .retAddr 0] [.int (-2 : Int32)] (sm_hp r2.2) [] rfl (sm_on) ?_
    obtain rfl := Option.some.inj hf
    exact w_reti dX12_pairsBy_9 rfl rfl
set_option maxRecDepth 10000 in
theorem tX12_closed {l : Launch} {al : Bool} (m : sm_S) (r : Int32 × sm_S) (hf : fX12_closed m = some r) : sm_Rt l mX12_closed 16 0 0 al al [.ref 72] (sm_hp m) (some (.int r.1), sm_hp r.2) := by
  refine sm_Rt.ofW (L := [.ref 72]) (by decide) (Nat.le_of_ble_eq_true rfl) rfl ?_
  unfold fX12_closed at hf
  refine w_blk bX12_closed_0 [.ref 72] [.int (0 : Int32), .ref 72] (sm_hp (sm_w1 m 72 0 (0 : Int32))) [] rfl (sm_on) ?_
  replace hf := sm_bd hf
  obtain ⟨r2, q1, hf⟩ := hf
  refine w_callV [.int (0 : Int32)] [] (tX12_pairsBy (0 : Int32) (sm_w1 m 72 0 (0 : Int32)) r2 q1) (cvX12_320 rfl) dX12_closed_7 rfl rfl (by decide) (by decide) rfl (Nat.le_of_ble_eq_true rfl) ?_
  show sm_W _ _ _ _ _ 10 [.ref 72] [.int r2.1] (sm_hp r2.2)
  obtain rfl := Option.some.inj hf
  exact w_reti dX12_closed_10 rfl rfl
set_option maxRecDepth 10000 in
theorem tX12_open {l : Launch} {al : Bool} (m : sm_S) (r : Int32 × sm_S) (hf : fX12_open m = some r) : sm_Rt l mX12_open 16 0 0 al al [.ref 72] (sm_hp m) (some (.int r.1), sm_hp r.2) := by
  refine sm_Rt.ofW (L := [.ref 72]) (by decide) (Nat.le_of_ble_eq_true rfl) rfl ?_
  unfold fX12_open at hf
  refine w_blk bX12_open_0 [.ref 72] [.int (2 : Int32), .ref 72] (sm_hp (sm_w1 m 72 0 (0 : Int32))) [] rfl (sm_on) ?_
  replace hf := sm_bd hf
  obtain ⟨r2, q1, hf⟩ := hf
  refine w_callV [.int (2 : Int32)] [] (tX12_pairsBy (2 : Int32) (sm_w1 m 72 0 (0 : Int32)) r2 q1) (cvX12_320 rfl) dX12_open_7 rfl rfl (by decide) (by decide) rfl (Nat.le_of_ble_eq_true rfl) ?_
  show sm_W _ _ _ _ _ 10 [.ref 72] [.int r2.1] (sm_hp r2.2)
  obtain rfl := Option.some.inj hf
  exact w_reti dX12_open_10 rfl rfl
set_option maxRecDepth 10000 in
theorem tX12_laysOut_73 {l : Launch} {al : Bool} (k49 : Int32 → Int32 → sm_S → Option (sm_S)) (k39 : Int32 → sm_S → Option (sm_S)) (hk49 : ∀ (v2 : Int32) (v3 : Int32) (m : sm_S) (r : sm_S), k49 v2 v3 m = some r → sm_W l mX12_laysOut 2 al (none, sm_hp r) 49 [.ref 72, .retAddr 0, .int v2, .int v3, .retAddr 0, .retAddr 0, .retAddr 0] [] (sm_hp m)) (hk39 : ∀ (v2 : Int32) (m : sm_S) (r : sm_S), k39 v2 m = some r → sm_W l mX12_laysOut 2 al (none, sm_hp r) 39 [.ref 72, .retAddr 0, .int v2, .retAddr 0, .retAddr 0, .retAddr 0, .retAddr 0] [] (sm_hp m)) : ∀ (n : Nat) (v2 : Int32) (v3 : Int32) (v4 : Int32) (v5 : Int32) (m : sm_S) (r : sm_S), fX12_laysOut_73 k49 k39 n v2 v3 v4 v5 m = some r → sm_W l mX12_laysOut 2 al (none, sm_hp r) 73 [.ref 72, .retAddr 0, .int v2, .int v3, .int v4, .int v5, .retAddr 0] [] (sm_hp m) := by
  intro n
  induction n with
  | zero =>
    intro v2 v3 v4 v5 m r hf
    unfold fX12_laysOut_73 at hf
    cases hf
  | succ n ih =>
    intro v2 v3 v4 v5 m r hf
    unfold fX12_laysOut_73 at hf
    refine w_blk bX12_laysOut_73 [.ref 72, .retAddr 0, .int v2, .int v3, .int v4, .int v5, .retAddr 0] [.int (m.1 72 6), .int v5] (sm_hp m) [] rfl (sm_on) ?_
    refine w_icmp_ge (tgt := 161) dX12_laysOut_79 rfl (fun hc => ?_) (fun hc => ?_)
    · replace hf := sm_ift hc hf
      refine w_blk bX12_laysOut_161 [.ref 72, .retAddr 0, .int v2, .int (v3 + (1 : Int32)), .int v4, .int v5, .retAddr 0] [] (sm_hp m) [] rfl (sm_on) ?_
      refine w_goto (tgt := 49) dX12_laysOut_164 rfl ?_
      refine w_wk [true, false, true, true, false, false, false] ?_
      exact hk49 v2 (v3 + (1 : Int32)) m r hf
    · replace hf := sm_iff hc hf
      refine w_blk bX12_laysOut_82 [.ref 72, .retAddr 0, .int v2, .int v3, .int v4, .int v5, .retAddr 0] [.int (1000000 : Int32), .int v4] (sm_hp m) [] rfl (sm_on) ?_
      refine w_icmp_ge (tgt := 161) dX12_laysOut_87 rfl (fun hc => ?_) (fun hc => ?_)
      · replace hf := sm_ift hc hf
        refine w_blk bX12_laysOut_161 [.ref 72, .retAddr 0, .int v2, .int (v3 + (1 : Int32)), .int v4, .int v5, .retAddr 0] [] (sm_hp m) [] rfl (sm_on) ?_
        refine w_goto (tgt := 49) dX12_laysOut_164 rfl ?_
        refine w_wk [true, false, true, true, false, false, false] ?_
        exact hk49 v2 (v3 + (1 : Int32)) m r hf
      · replace hf := sm_iff hc hf
        refine w_blk bX12_laysOut_90 [.ref 72, .retAddr 0, .int v2, .int v3, .int v4, .int v5, .retAddr 0] [.int v5, .int v2] (sm_hp m) [] rfl (sm_on) ?_
        replace hf := sm_bd hf
        obtain ⟨r6, q5, hf⟩ := hf
        refine w_callS [.int v2, .int v5] [] (tX12_has v2 v5 m r6 q5) (csX12_144 rfl) dX12_laysOut_93 rfl rfl (by decide) (by decide) (Nat.le_of_ble_eq_true rfl) ?_
        show sm_W _ _ _ _ _ 96 [.ref 72, .retAddr 0, .int v2, .int v3, .int v4, .int v5, .retAddr 0] [.int r6] (sm_hp m)
        refine w_if_ne (tgt := 155) dX12_laysOut_96 rfl (fun hc => ?_) (fun hc => ?_)
        · replace hf := sm_iff hc hf
          refine w_blk bX12_laysOut_155 [.ref 72, .retAddr 0, .int v2, .int v3, .int v4, .int (v5 + (1 : Int32)), .retAddr 0] [] (sm_hp m) [] rfl (sm_on) ?_
          refine w_goto (tgt := 73) dX12_laysOut_158 rfl ?_
          exact ih v2 v3 v4 (v5 + (1 : Int32)) m r hf
        · replace hf := sm_ift hc hf
          refine w_blk bX12_laysOut_99 [.ref 72, .retAddr 0, .int v2, .int v3, .int v4, .int v5, .retAddr 0] [.int v3, .int v5, .ref 72] (sm_hp m) [] rfl (sm_on) ?_
          replace hf := sm_bd hf
          obtain ⟨r8, q7, hf⟩ := hf
          refine w_callV [.int v5, .int v3] [] (tX12_isEnd v5 v3 m r8 q7) (cvX12_180 rfl) dX12_laysOut_103 rfl rfl (by decide) (by decide) rfl (Nat.le_of_ble_eq_true rfl) ?_
          show sm_W _ _ _ _ _ 106 [.ref 72, .retAddr 0, .int v2, .int v3, .int v4, .int v5, .retAddr 0] [.int r8] (sm_hp m)
          refine w_if_eq (tgt := 155) dX12_laysOut_106 rfl (fun hc => ?_) (fun hc => ?_)
          · replace hf := sm_ift hc hf
            refine w_blk bX12_laysOut_155 [.ref 72, .retAddr 0, .int v2, .int v3, .int v4, .int (v5 + (1 : Int32)), .retAddr 0] [] (sm_hp m) [] rfl (sm_on) ?_
            refine w_goto (tgt := 73) dX12_laysOut_158 rfl ?_
            exact ih v2 v3 v4 (v5 + (1 : Int32)) m r hf
          · replace hf := sm_iff hc hf
            refine w_blk bX12_laysOut_109 [.ref 72, .retAddr 0, .int v2, .int v3, .int v4, .int v5, .retAddr 0] [.int v3, .int v5, .ref 72, .int ((10 : Int32) * (v2 ||| ((1 : Int32) <<< (v5 &&& 31))))] (sm_hp m) [] rfl (sm_on) ?_
            replace hf := sm_bd hf
            obtain ⟨r10, q9, hf⟩ := hf
            refine w_callV [.int v5, .int v3] [.int ((10 : Int32) * (v2 ||| ((1 : Int32) <<< (v5 &&& 31))))] (tX12_endOf v5 v3 m r10 q9) (cvX12_201 rfl) dX12_laysOut_122 rfl rfl (by decide) (by decide) rfl (Nat.le_of_ble_eq_true rfl) ?_
            show sm_W _ _ _ _ _ 125 [.ref 72, .retAddr 0, .int v2, .int v3, .int v4, .int v5, .retAddr 0] [.int r10, .int ((10 : Int32) * (v2 ||| ((1 : Int32) <<< (v5 &&& 31))))] (sm_hp m)
            replace hf := sm_ck hf
            obtain ⟨q11, hf⟩ := hf
            refine w_blk bX12_laysOut_125 [.ref 72, .retAddr 0, .int v2, .int v3, .int v4, .int v5, .int (((10 : Int32) * (v2 ||| ((1 : Int32) <<< (v5 &&& 31)))) + r10)] [.int v3, .int v5, .ref 72, .int v4, .int (m.1 98 (((10 : Int32) * (v2 ||| ((1 : Int32) <<< (v5 &&& 31)))) + r10).toNatClampNeg), .int (((10 : Int32) * (v2 ||| ((1 : Int32) <<< (v5 &&& 31)))) + r10), .ref 98] (sm_hp m) [((((10 : Int32) * (v2 ||| ((1 : Int32) <<< (v5 &&& 31)))) + r10), 163840)] rfl (sm_oc q11 (sm_on)) ?_
            replace hf := sm_bd hf
            obtain ⟨r13, q12, hf⟩ := hf
            refine w_callV [.int v5, .int v3] [.int v4, .int (m.1 98 (((10 : Int32) * (v2 ||| ((1 : Int32) <<< (v5 &&& 31)))) + r10).toNatClampNeg), .int (((10 : Int32) * (v2 ||| ((1 : Int32) <<< (v5 &&& 31)))) + r10), .ref 98] (tX12_minutesFrom v5 v3 m r13 q12) (cvX12_186 rfl) dX12_laysOut_147 rfl rfl (by decide) (by decide) rfl (Nat.le_of_ble_eq_true rfl) ?_
            show sm_W _ _ _ _ _ 150 [.ref 72, .retAddr 0, .int v2, .int v3, .int v4, .int v5, .int (((10 : Int32) * (v2 ||| ((1 : Int32) <<< (v5 &&& 31)))) + r10)] [.int r13, .int v4, .int (m.1 98 (((10 : Int32) * (v2 ||| ((1 : Int32) <<< (v5 &&& 31)))) + r10).toNatClampNeg), .int (((10 : Int32) * (v2 ||| ((1 : Int32) <<< (v5 &&& 31)))) + r10), .ref 98] (sm_hp m)
            replace hf := sm_ck hf
            obtain ⟨q14, hf⟩ := hf
            refine w_blk bX12_laysOut_150 [.ref 72, .retAddr 0, .int v2, .int v3, .int v4, .int v5, .int (((10 : Int32) * (v2 ||| ((1 : Int32) <<< (v5 &&& 31)))) + r10)] [] (sm_hp (sm_w1 m 98 (((10 : Int32) * (v2 ||| ((1 : Int32) <<< (v5 &&& 31)))) + r10).toNatClampNeg (if (v4 + r13) < (m.1 98 (((10 : Int32) * (v2 ||| ((1 : Int32) <<< (v5 &&& 31)))) + r10).toNatClampNeg) then (v4 + r13) else (m.1 98 (((10 : Int32) * (v2 ||| ((1 : Int32) <<< (v5 &&& 31)))) + r10).toNatClampNeg)))) [((((10 : Int32) * (v2 ||| ((1 : Int32) <<< (v5 &&& 31)))) + r10), 163840)] rfl (sm_oc q14 (sm_on)) ?_
            refine w_blk bX12_laysOut_155 [.ref 72, .retAddr 0, .int v2, .int v3, .int v4, .int (v5 + (1 : Int32)), .int (((10 : Int32) * (v2 ||| ((1 : Int32) <<< (v5 &&& 31)))) + r10)] [] (sm_hp (sm_w1 m 98 (((10 : Int32) * (v2 ||| ((1 : Int32) <<< (v5 &&& 31)))) + r10).toNatClampNeg (if (v4 + r13) < (m.1 98 (((10 : Int32) * (v2 ||| ((1 : Int32) <<< (v5 &&& 31)))) + r10).toNatClampNeg) then (v4 + r13) else (m.1 98 (((10 : Int32) * (v2 ||| ((1 : Int32) <<< (v5 &&& 31)))) + r10).toNatClampNeg)))) [] rfl (sm_on) ?_
            refine w_goto (tgt := 73) dX12_laysOut_158 rfl ?_
            refine w_wk [true, false, true, true, true, true, false] ?_
            exact ih v2 v3 v4 (v5 + (1 : Int32)) (sm_w1 m 98 (((10 : Int32) * (v2 ||| ((1 : Int32) <<< (v5 &&& 31)))) + r10).toNatClampNeg (if (v4 + r13) < (m.1 98 (((10 : Int32) * (v2 ||| ((1 : Int32) <<< (v5 &&& 31)))) + r10).toNatClampNeg) then (v4 + r13) else (m.1 98 (((10 : Int32) * (v2 ||| ((1 : Int32) <<< (v5 &&& 31)))) + r10).toNatClampNeg))) r hf
set_option maxRecDepth 10000 in
theorem tX12_laysOut_49 {l : Launch} {al : Bool} (k39 : Int32 → sm_S → Option (sm_S)) (hk39 : ∀ (v2 : Int32) (m : sm_S) (r : sm_S), k39 v2 m = some r → sm_W l mX12_laysOut 2 al (none, sm_hp r) 39 [.ref 72, .retAddr 0, .int v2, .retAddr 0, .retAddr 0, .retAddr 0, .retAddr 0] [] (sm_hp m)) : ∀ (n : Nat) (v2 : Int32) (v3 : Int32) (m : sm_S) (r : sm_S), fX12_laysOut_49 k39 n v2 v3 m = some r → sm_W l mX12_laysOut 2 al (none, sm_hp r) 49 [.ref 72, .retAddr 0, .int v2, .int v3, .retAddr 0, .retAddr 0, .retAddr 0] [] (sm_hp m) := by
  intro n
  induction n with
  | zero =>
    intro v2 v3 m r hf
    unfold fX12_laysOut_49 at hf
    cases hf
  | succ n ih =>
    intro v2 v3 m r hf
    unfold fX12_laysOut_49 at hf
    refine w_blk bX12_laysOut_49 [.ref 72, .retAddr 0, .int v2, .int v3, .retAddr 0, .retAddr 0, .retAddr 0] [.int (m.1 72 3), .int v3] (sm_hp m) [] rfl (sm_on) ?_
    refine w_icmp_ge (tgt := 167) dX12_laysOut_54 rfl (fun hc => ?_) (fun hc => ?_)
    · replace hf := sm_ift hc hf
      refine w_blk bX12_laysOut_167 [.ref 72, .retAddr 0, .int (v2 + (1 : Int32)), .int v3, .retAddr 0, .retAddr 0, .retAddr 0] [] (sm_hp m) [] rfl (sm_on) ?_
      refine w_goto (tgt := 39) dX12_laysOut_170 rfl ?_
      refine w_wk [true, false, true, false, false, false, false] ?_
      exact hk39 (v2 + (1 : Int32)) m r hf
    · replace hf := sm_iff hc hf
      replace hf := sm_ck hf
      obtain ⟨q4, hf⟩ := hf
      refine w_blk bX12_laysOut_57 [.ref 72, .retAddr 0, .int v2, .int v3, .int (m.1 98 (((10 : Int32) * v2) + v3).toNatClampNeg), .int (0 : Int32), .retAddr 0] [] (sm_hp m) [((((10 : Int32) * v2) + v3), 163840)] rfl (sm_oc q4 (sm_on)) ?_
      exact tX12_laysOut_73 (fX12_laysOut_49 k39 n) k39 ih hk39 sm_fu v2 v3 (m.1 98 (((10 : Int32) * v2) + v3).toNatClampNeg) (0 : Int32) m r hf
set_option maxRecDepth 10000 in
theorem tX12_laysOut_39 {l : Launch} {al : Bool} : ∀ (n : Nat) (v2 : Int32) (m : sm_S) (r : sm_S), fX12_laysOut_39 n v2 m = some r → sm_W l mX12_laysOut 2 al (none, sm_hp r) 39 [.ref 72, .retAddr 0, .int v2, .retAddr 0, .retAddr 0, .retAddr 0, .retAddr 0] [] (sm_hp m) := by
  intro n
  induction n with
  | zero =>
    intro v2 m r hf
    unfold fX12_laysOut_39 at hf
    cases hf
  | succ n ih =>
    intro v2 m r hf
    unfold fX12_laysOut_39 at hf
    refine w_blk bX12_laysOut_39 [.ref 72, .retAddr 0, .int v2, .retAddr 0, .retAddr 0, .retAddr 0, .retAddr 0] [.ref 72, .int v2] (sm_hp m) [] rfl (sm_on) ?_
    replace hf := sm_bd hf
    obtain ⟨r3, q2, hf⟩ := hf
    refine w_callV [] [.int v2] (tX12_allHedges m r3 q2) (cvX12_266 rfl) dX12_laysOut_41 rfl rfl (by decide) (by decide) rfl (Nat.le_of_ble_eq_true rfl) ?_
    show sm_W _ _ _ _ _ 44 [.ref 72, .retAddr 0, .int v2, .retAddr 0, .retAddr 0, .retAddr 0, .retAddr 0] [.int r3, .int v2] (sm_hp m)
    refine w_icmp_gt (tgt := 173) dX12_laysOut_44 rfl (fun hc => ?_) (fun hc => ?_)
    · replace hf := sm_ift hc hf
      obtain rfl := Option.some.inj hf
      exact w_retv dX12_laysOut_173 rfl
    · replace hf := sm_iff hc hf
      refine w_blk bX12_laysOut_47 [.ref 72, .retAddr 0, .int v2, .int (0 : Int32), .retAddr 0, .retAddr 0, .retAddr 0] [] (sm_hp m) [] rfl (sm_on) ?_
      exact tX12_laysOut_49 (fX12_laysOut_39 n) ih sm_fu v2 (0 : Int32) m r hf
set_option maxRecDepth 10000 in
theorem tX12_laysOut_2 {l : Launch} {al : Bool} : ∀ (n : Nat) (v1 : Int32) (v2 : Int32) (m : sm_S) (r : sm_S), fX12_laysOut_2 n v1 v2 m = some r → sm_W l mX12_laysOut 2 al (none, sm_hp r) 2 [.ref 72, .int v1, .int v2, .retAddr 0, .retAddr 0, .retAddr 0, .retAddr 0] [] (sm_hp m) := by
  intro n
  induction n with
  | zero =>
    intro v1 v2 m r hf
    unfold fX12_laysOut_2 at hf
    cases hf
  | succ n ih =>
    intro v1 v2 m r hf
    unfold fX12_laysOut_2 at hf
    refine w_blk bX12_laysOut_2 [.ref 72, .int v1, .int v2, .retAddr 0, .retAddr 0, .retAddr 0, .retAddr 0] [.int (((1 : Int32) <<< ((m.1 72 6) &&& 31)) * (10 : Int32)), .int v2] (sm_hp m) [] rfl (sm_on) ?_
    refine w_icmp_ge (tgt := 30) dX12_laysOut_12 rfl (fun hc => ?_) (fun hc => ?_)
    · replace hf := sm_ift hc hf
      replace hf := sm_ck hf
      obtain ⟨q1, hf⟩ := hf
      refine w_blk bX12_laysOut_30 [.ref 72, .int v1, .int (0 : Int32), .retAddr 0, .retAddr 0, .retAddr 0, .retAddr 0] [] (sm_hp (sm_w1 m 98 (v1).toNatClampNeg (0 : Int32))) [(v1, 163840)] rfl (sm_oc q1 (sm_on)) ?_
      refine w_wk [true, false, true, false, false, false, false] ?_
      exact tX12_laysOut_39 sm_fu (0 : Int32) (sm_w1 m 98 (v1).toNatClampNeg (0 : Int32)) r hf
    · replace hf := sm_iff hc hf
      replace hf := sm_ck hf
      obtain ⟨q15, hf⟩ := hf
      refine w_blk bX12_laysOut_15 [.ref 72, .int v1, .int (v2 + (1 : Int32)), .retAddr 0, .retAddr 0, .retAddr 0, .retAddr 0] [] (sm_hp (sm_w1 m 98 (v2).toNatClampNeg (1000000 : Int32))) [(v2, 163840)] rfl (sm_oc q15 (sm_on)) ?_
      refine w_goto (tgt := 2) dX12_laysOut_27 rfl ?_
      exact ih v1 (v2 + (1 : Int32)) (sm_w1 m 98 (v2).toNatClampNeg (1000000 : Int32)) r hf
set_option maxRecDepth 10000 in
theorem tX12_laysOut {l : Launch} {al : Bool} (x1 : Int32) (m : sm_S) (r : sm_S) (hf : fX12_laysOut x1 m = some r) : sm_Rt l mX12_laysOut 2 0 0 al al [.ref 72, .int x1] (sm_hp m) (none, sm_hp r) := by
  refine sm_Rt.ofW (L := [.ref 72, .int x1, .retAddr 0, .retAddr 0, .retAddr 0, .retAddr 0, .retAddr 0]) (by decide) (Nat.le_of_ble_eq_true rfl) rfl ?_
  unfold fX12_laysOut at hf
  refine w_blk bX12_laysOut_0 [.ref 72, .int x1, .int (0 : Int32), .retAddr 0, .retAddr 0, .retAddr 0, .retAddr 0] [] (sm_hp m) [] rfl (sm_on) ?_
  exact tX12_laysOut_2 sm_fu x1 (0 : Int32) m r hf
set_option maxRecDepth 10000 in
theorem tX12_soonest_7 {l : Launch} {al : Bool} : ∀ (n : Nat) (v1 : Int32) (v2 : Int32) (v3 : Int32) (v4 : Int32) (m : sm_S) (r : Int32), fX12_soonest_7 n v1 v2 v3 v4 m = some r → sm_W l mX12_soonest 1 al (some (.int r), sm_hp m) 7 [.ref 72, .int v1, .int v2, .int v3, .int v4] [] (sm_hp m) := by
  intro n
  induction n with
  | zero =>
    intro v1 v2 v3 v4 m r hf
    unfold fX12_soonest_7 at hf
    cases hf
  | succ n ih =>
    intro v1 v2 v3 v4 m r hf
    unfold fX12_soonest_7 at hf
    refine w_blk bX12_soonest_7 [.ref 72, .int v1, .int v2, .int v3, .int v4] [.int (m.1 72 3), .int v4] (sm_hp m) [] rfl (sm_on) ?_
    refine w_icmp_ge (tgt := 53) dX12_soonest_13 rfl (fun hc => ?_) (fun hc => ?_)
    · replace hf := sm_ift hc hf
      refine w_blk bX12_soonest_53 [.ref 72, .int v1, .int v2, .int v3, .int v4] [.int v3] (sm_hp m) [] rfl (sm_on) ?_
      obtain rfl := Option.some.inj hf
      exact w_reti dX12_soonest_54 rfl rfl
    · replace hf := sm_iff hc hf
      refine w_blk bX12_soonest_16 [.ref 72, .int v1, .int v2, .int v3, .int v4] [.int v2] (sm_hp m) [] rfl (sm_on) ?_
      refine w_if_lt (tgt := 26) dX12_soonest_17 rfl (fun hc => ?_) (fun hc => ?_)
      · replace hf := sm_ift hc hf
        replace hf := sm_ck hf
        obtain ⟨q1, hf⟩ := hf
        refine w_blk bX12_soonest_26 [.ref 72, .int v1, .int v2, .int v3, .int v4] [.int (if (m.1 98 (((10 : Int32) * v1) + v4).toNatClampNeg) < v3 then (m.1 98 (((10 : Int32) * v1) + v4).toNatClampNeg) else v3)] (sm_hp m) [((((10 : Int32) * v1) + v4), 163840)] rfl (sm_oc q1 (sm_on)) ?_
        refine w_goto (tgt := 46) dX12_soonest_42 rfl ?_
        refine w_blk bX12_soonest_46 [.ref 72, .int v1, .int v2, .int (if (m.1 98 (((10 : Int32) * v1) + v4).toNatClampNeg) < v3 then (m.1 98 (((10 : Int32) * v1) + v4).toNatClampNeg) else v3), .int (v4 + (1 : Int32))] [] (sm_hp m) [] rfl (sm_on) ?_
        refine w_goto (tgt := 7) dX12_soonest_50 rfl ?_
        exact ih v1 v2 (if (m.1 98 (((10 : Int32) * v1) + v4).toNatClampNeg) < v3 then (m.1 98 (((10 : Int32) * v1) + v4).toNatClampNeg) else v3) (v4 + (1 : Int32)) m r hf
      · replace hf := sm_iff hc hf
        refine w_blk bX12_soonest_20 [.ref 72, .int v1, .int v2, .int v3, .int v4] [.int v4, .int v2] (sm_hp m) [] rfl (sm_on) ?_
        refine w_icmp_ne (tgt := 45) dX12_soonest_23 rfl (fun hc => ?_) (fun hc => ?_)
        · replace hf := sm_iff hc hf
          refine w_blk bX12_soonest_45 [.ref 72, .int v1, .int v2, .int v3, .int v4] [.int v3] (sm_hp m) [] rfl (sm_on) ?_
          refine w_blk bX12_soonest_46 [.ref 72, .int v1, .int v2, .int v3, .int (v4 + (1 : Int32))] [] (sm_hp m) [] rfl (sm_on) ?_
          refine w_goto (tgt := 7) dX12_soonest_50 rfl ?_
          exact ih v1 v2 v3 (v4 + (1 : Int32)) m r hf
        · replace hf := sm_ift hc hf
          replace hf := sm_ck hf
          obtain ⟨q2, hf⟩ := hf
          refine w_blk bX12_soonest_26 [.ref 72, .int v1, .int v2, .int v3, .int v4] [.int (if (m.1 98 (((10 : Int32) * v1) + v4).toNatClampNeg) < v3 then (m.1 98 (((10 : Int32) * v1) + v4).toNatClampNeg) else v3)] (sm_hp m) [((((10 : Int32) * v1) + v4), 163840)] rfl (sm_oc q2 (sm_on)) ?_
          refine w_goto (tgt := 46) dX12_soonest_42 rfl ?_
          refine w_blk bX12_soonest_46 [.ref 72, .int v1, .int v2, .int (if (m.1 98 (((10 : Int32) * v1) + v4).toNatClampNeg) < v3 then (m.1 98 (((10 : Int32) * v1) + v4).toNatClampNeg) else v3), .int (v4 + (1 : Int32))] [] (sm_hp m) [] rfl (sm_on) ?_
          refine w_goto (tgt := 7) dX12_soonest_50 rfl ?_
          exact ih v1 v2 (if (m.1 98 (((10 : Int32) * v1) + v4).toNatClampNeg) < v3 then (m.1 98 (((10 : Int32) * v1) + v4).toNatClampNeg) else v3) (v4 + (1 : Int32)) m r hf
set_option maxRecDepth 10000 in
theorem tX12_soonest {l : Launch} {al : Bool} (x1 : Int32) (x2 : Int32) (m : sm_S) (r : Int32) (hf : fX12_soonest x1 x2 m = some r) : sm_Rt l mX12_soonest 1 0 0 al al [.ref 72, .int x1, .int x2] (sm_hp m) (some (.int r), sm_hp m) := by
  refine sm_Rt.ofW (L := [.ref 72, .int x1, .int x2, .retAddr 0, .retAddr 0]) (by decide) (Nat.le_of_ble_eq_true rfl) rfl ?_
  unfold fX12_soonest at hf
  refine w_blk bX12_soonest_0 [.ref 72, .int x1, .int x2, .int (1000000 : Int32), .int (0 : Int32)] [] (sm_hp m) [] rfl (sm_on) ?_
  exact tX12_soonest_7 sm_fu x1 x2 (1000000 : Int32) (0 : Int32) m r hf
set_option maxRecDepth 10000 in
theorem tX12_worthOf_4 {l : Launch} {al : Bool} : ∀ (n : Nat) (v1 : Int32) (v2 : Int32) (v3 : Int32) (m : sm_S) (r : Int32), fX12_worthOf_4 n v1 v2 v3 m = some r → sm_W l mX12_worthOf 2 al (some (.int r), sm_hp m) 4 [.ref 72, .int v1, .int v2, .int v3] [] (sm_hp m) := by
  intro n
  induction n with
  | zero =>
    intro v1 v2 v3 m r hf
    unfold fX12_worthOf_4 at hf
    cases hf
  | succ n ih =>
    intro v1 v2 v3 m r hf
    unfold fX12_worthOf_4 at hf
    refine w_blk bX12_worthOf_4 [.ref 72, .int v1, .int v2, .int v3] [.int (m.1 72 6), .int v3] (sm_hp m) [] rfl (sm_on) ?_
    refine w_icmp_ge (tgt := 39) dX12_worthOf_9 rfl (fun hc => ?_) (fun hc => ?_)
    · replace hf := sm_ift hc hf
      refine w_blk bX12_worthOf_39 [.ref 72, .int v1, .int v2, .int v3] [.int v2] (sm_hp m) [] rfl (sm_on) ?_
      obtain rfl := Option.some.inj hf
      exact w_reti dX12_worthOf_40 rfl rfl
    · replace hf := sm_iff hc hf
      refine w_blk bX12_worthOf_12 [.ref 72, .int v1, .int v2, .int v3] [.int v3, .int v1, .int v2] (sm_hp m) [] rfl (sm_on) ?_
      replace hf := sm_bd hf
      obtain ⟨r2, q1, hf⟩ := hf
      refine w_callS [.int v1, .int v3] [.int v2] (tX12_has v1 v3 m r2 q1) (csX12_144 rfl) dX12_worthOf_15 rfl rfl (by decide) (by decide) (Nat.le_of_ble_eq_true rfl) ?_
      show sm_W _ _ _ _ _ 18 [.ref 72, .int v1, .int v2, .int v3] [.int r2, .int v2] (sm_hp m)
      refine w_if_eq (tgt := 30) dX12_worthOf_18 rfl (fun hc => ?_) (fun hc => ?_)
      · replace hf := sm_ift hc hf
        refine w_blk bX12_worthOf_30 [.ref 72, .int v1, .int v2, .int v3] [.int (0 : Int32), .int v2] (sm_hp m) [] rfl (sm_on) ?_
        refine w_blk bX12_worthOf_31 [.ref 72, .int v1, .int (v2 + (0 : Int32)), .int (v3 + (1 : Int32))] [] (sm_hp m) [] rfl (sm_on) ?_
        refine w_goto (tgt := 4) dX12_worthOf_36 rfl ?_
        exact ih v1 (v2 + (0 : Int32)) (v3 + (1 : Int32)) m r hf
      · replace hf := sm_iff hc hf
        replace hf := sm_ck hf
        obtain ⟨q3, hf⟩ := hf
        refine w_blk bX12_worthOf_21 [.ref 72, .int v1, .int v2, .int v3] [.int (m.1 81 (v3).toNatClampNeg), .int v2] (sm_hp m) [(v3, 14)] rfl (sm_oc q3 (sm_on)) ?_
        refine w_goto (tgt := 31) dX12_worthOf_27 rfl ?_
        refine w_blk bX12_worthOf_31 [.ref 72, .int v1, .int (v2 + (m.1 81 (v3).toNatClampNeg)), .int (v3 + (1 : Int32))] [] (sm_hp m) [] rfl (sm_on) ?_
        refine w_goto (tgt := 4) dX12_worthOf_36 rfl ?_
        exact ih v1 (v2 + (m.1 81 (v3).toNatClampNeg)) (v3 + (1 : Int32)) m r hf
set_option maxRecDepth 10000 in
theorem tX12_worthOf {l : Launch} {al : Bool} (x1 : Int32) (m : sm_S) (r : Int32) (hf : fX12_worthOf x1 m = some r) : sm_Rt l mX12_worthOf 2 0 0 al al [.ref 72, .int x1] (sm_hp m) (some (.int r), sm_hp m) := by
  refine sm_Rt.ofW (L := [.ref 72, .int x1, .retAddr 0, .retAddr 0]) (by decide) (Nat.le_of_ble_eq_true rfl) rfl ?_
  unfold fX12_worthOf at hf
  refine w_blk bX12_worthOf_0 [.ref 72, .int x1, .int (0 : Int32), .int (0 : Int32)] [] (sm_hp m) [] rfl (sm_on) ?_
  exact tX12_worthOf_4 sm_fu x1 (0 : Int32) (0 : Int32) m r hf
set_option maxRecDepth 10000 in
theorem tX12_mostBy_17 {l : Launch} {al : Bool} : ∀ (n : Nat) (v2 : Int32) (v3 : Int32) (v4 : Int32) (v5 : Int32) (v6 : Int32) (v7 : Int32) (m : sm_S) (r : Int32 × sm_S), fX12_mostBy_17 n v2 v3 v4 v5 v6 v7 m = some r → sm_W l mX12_mostBy 3 al (some (.int r.1), sm_hp r.2) 17 [.ref 72, .retAddr 0, .int v2, .int v3, .int v4, .int v5, .int v6, .int v7, .retAddr 0, .retAddr 0] [] (sm_hp m) := by
  intro n
  induction n with
  | zero =>
    intro v2 v3 v4 v5 v6 v7 m r hf
    unfold fX12_mostBy_17 at hf
    cases hf
  | succ n ih =>
    intro v2 v3 v4 v5 v6 v7 m r hf
    unfold fX12_mostBy_17 at hf
    refine w_blk bX12_mostBy_17 [.ref 72, .retAddr 0, .int v2, .int v3, .int v4, .int v5, .int v6, .int v7, .retAddr 0, .retAddr 0] [.ref 72, .int v7] (sm_hp m) [] rfl (sm_on) ?_
    replace hf := sm_bd hf
    obtain ⟨r4, q3, hf⟩ := hf
    refine w_callV [] [.int v7] (tX12_allHedges m r4 q3) (cvX12_266 rfl) dX12_mostBy_20 rfl rfl (by decide) (by decide) rfl (Nat.le_of_ble_eq_true rfl) ?_
    show sm_W _ _ _ _ _ 23 [.ref 72, .retAddr 0, .int v2, .int v3, .int v4, .int v5, .int v6, .int v7, .retAddr 0, .retAddr 0] [.int r4, .int v7] (sm_hp m)
    refine w_icmp_gt (tgt := 95) dX12_mostBy_23 rfl (fun hc => ?_) (fun hc => ?_)
    · replace hf := sm_ift hc hf
      refine w_blk bX12_mostBy_95 [.ref 72, .retAddr 0, .int v2, .int v3, .int v4, .int v5, .int v6, .int v7, .retAddr 0, .retAddr 0] [.int v4, .ref 72] (sm_hp (sm_w1 m 72 1 (0 : Int32))) [] rfl (sm_on) ?_
      replace hf := sm_bd hf
      obtain ⟨m6, q5, hf⟩ := hf
      refine w_callV [.int v4] [] (tX12_enters v4 (sm_w1 m 72 1 (0 : Int32)) m6 q5) (cvX12_229 rfl) dX12_mostBy_103 rfl rfl (by decide) (by decide) rfl (Nat.le_of_ble_eq_true rfl) ?_
      show sm_W _ _ _ _ _ 106 [.ref 72, .retAddr 0, .int v2, .int v3, .int v4, .int v5, .int v6, .int v7, .retAddr 0, .retAddr 0] [] (sm_hp m6)
      refine w_blk bX12_mostBy_106 [.ref 72, .retAddr 0, .int v2, .int v3, .int v4, .int v5, .int v6, .int v7, .retAddr 0, .retAddr 0] [.int v6, .ref 72] (sm_hp m6) [] rfl (sm_on) ?_
      replace hf := sm_bd hf
      obtain ⟨m8, q7, hf⟩ := hf
      refine w_callV [.int v6] [] (tX12_enters v6 m6 m8 q7) (cvX12_229 rfl) dX12_mostBy_109 rfl rfl (by decide) (by decide) rfl (Nat.le_of_ble_eq_true rfl) ?_
      show sm_W _ _ _ _ _ 112 [.ref 72, .retAddr 0, .int v2, .int v3, .int v4, .int v5, .int v6, .int v7, .retAddr 0, .retAddr 0] [] (sm_hp m8)
      refine w_blk bX12_mostBy_112 [.ref 72, .retAddr 0, .int v2, .int v3, .int v4, .int v5, .int v6, .int v7, .retAddr 0, .retAddr 0] [.int v5] (sm_hp m8) [] rfl (sm_on) ?_
      obtain rfl := Option.some.inj hf
      exact w_reti dX12_mostBy_114 rfl rfl
    · replace hf := sm_iff hc hf
      refine w_blk bX12_mostBy_26 [.ref 72, .retAddr 0, .int v2, .int v3, .int v4, .int v5, .int v6, .int v7, .retAddr 0, .retAddr 0] [.int v3, .int v7, .ref 72] (sm_hp m) [] rfl (sm_on) ?_
      replace hf := sm_bd hf
      obtain ⟨r10, q9, hf⟩ := hf
      refine w_callV [.int v7, .int v3] [] (tX12_soonest v7 v3 m r10 q9) (cvX12_330 rfl) dX12_mostBy_30 rfl rfl (by decide) (by decide) rfl (Nat.le_of_ble_eq_true rfl) ?_
      show sm_W _ _ _ _ _ 33 [.ref 72, .retAddr 0, .int v2, .int v3, .int v4, .int v5, .int v6, .int v7, .retAddr 0, .retAddr 0] [.int r10] (sm_hp m)
      refine w_blk bX12_mostBy_33 [.ref 72, .retAddr 0, .int v2, .int v3, .int v4, .int v5, .int v6, .int v7, .int r10, .retAddr 0] [.int v2, .int r10] (sm_hp m) [] rfl (sm_on) ?_
      refine w_icmp_le (tgt := 45) dX12_mostBy_38 rfl (fun hc => ?_) (fun hc => ?_)
      · replace hf := sm_ift hc hf
        refine w_blk bX12_mostBy_45 [.ref 72, .retAddr 0, .int v2, .int v3, .int v4, .int v5, .int v6, .int v7, .int r10, .retAddr 0] [.int v7, .ref 72] (sm_hp m) [] rfl (sm_on) ?_
        replace hf := sm_bd hf
        obtain ⟨r12, q11, hf⟩ := hf
        refine w_callV [.int v7] [] (tX12_worthOf v7 m r12 q11) (cvX12_333 rfl) dX12_mostBy_48 rfl rfl (by decide) (by decide) rfl (Nat.le_of_ble_eq_true rfl) ?_
        show sm_W _ _ _ _ _ 51 [.ref 72, .retAddr 0, .int v2, .int v3, .int v4, .int v5, .int v6, .int v7, .int r10, .retAddr 0] [.int r12] (sm_hp m)
        refine w_blk bX12_mostBy_51 [.ref 72, .retAddr 0, .int v2, .int v3, .int v4, .int v5, .int v6, .int v7, .int r10, .retAddr 0] [.int (r12 - v5)] (sm_hp m) [] rfl (sm_on) ?_
        refine w_blk bX12_mostBy_54 [.ref 72, .retAddr 0, .int v2, .int v3, .int v4, .int v5, .int v6, .int v7, .int r10, .int (r12 - v5)] [.int (r12 - v5)] (sm_hp m) [] rfl (sm_on) ?_
        refine w_if_gt (tgt := 73) dX12_mostBy_58 rfl (fun hc => ?_) (fun hc => ?_)
        · replace hf := sm_ift hc hf
          refine w_blk bX12_mostBy_73 [.ref 72, .retAddr 0, .int v2, .int v3, .int v7, .int v5, .int v6, .int v7, .int r10, .int (r12 - v5)] [.int v7, .ref 72] (sm_hp m) [] rfl (sm_on) ?_
          replace hf := sm_bd hf
          obtain ⟨r14, q13, hf⟩ := hf
          refine w_callV [.int v7] [] (tX12_worthOf v7 m r14 q13) (cvX12_333 rfl) dX12_mostBy_80 rfl rfl (by decide) (by decide) rfl (Nat.le_of_ble_eq_true rfl) ?_
          show sm_W _ _ _ _ _ 83 [.ref 72, .retAddr 0, .int v2, .int v3, .int v7, .int v5, .int v6, .int v7, .int r10, .int (r12 - v5)] [.int r14] (sm_hp m)
          refine w_blk bX12_mostBy_83 [.ref 72, .retAddr 0, .int v2, .int v3, .int v7, .int r14, .int r10, .int v7, .int r10, .int (r12 - v5)] [] (sm_hp m) [] rfl (sm_on) ?_
          refine w_blk bX12_mostBy_89 [.ref 72, .retAddr 0, .int v2, .int v3, .int v7, .int r14, .int r10, .int (v7 + (1 : Int32)), .int r10, .int (r12 - v5)] [] (sm_hp m) [] rfl (sm_on) ?_
          refine w_goto (tgt := 17) dX12_mostBy_92 rfl ?_
          refine w_wk [true, false, true, true, true, true, true, true, false, false] ?_
          exact ih v2 v3 v7 r14 r10 (v7 + (1 : Int32)) m r hf
        · replace hf := sm_iff hc hf
          refine w_blk bX12_mostBy_61 [.ref 72, .retAddr 0, .int v2, .int v3, .int v4, .int v5, .int v6, .int v7, .int r10, .int (r12 - v5)] [.int (r12 - v5)] (sm_hp m) [] rfl (sm_on) ?_
          refine w_if_ne (tgt := 89) dX12_mostBy_63 rfl (fun hc => ?_) (fun hc => ?_)
          · replace hf := sm_iff hc hf
            refine w_blk bX12_mostBy_89 [.ref 72, .retAddr 0, .int v2, .int v3, .int v4, .int v5, .int v6, .int (v7 + (1 : Int32)), .int r10, .int (r12 - v5)] [] (sm_hp m) [] rfl (sm_on) ?_
            refine w_goto (tgt := 17) dX12_mostBy_92 rfl ?_
            refine w_wk [true, false, true, true, true, true, true, true, false, false] ?_
            exact ih v2 v3 v4 v5 v6 (v7 + (1 : Int32)) m r hf
          · replace hf := sm_ift hc hf
            refine w_blk bX12_mostBy_66 [.ref 72, .retAddr 0, .int v2, .int v3, .int v4, .int v5, .int v6, .int v7, .int r10, .int (r12 - v5)] [.int v6, .int r10] (sm_hp m) [] rfl (sm_on) ?_
            refine w_icmp_ge (tgt := 89) dX12_mostBy_70 rfl (fun hc => ?_) (fun hc => ?_)
            · replace hf := sm_ift hc hf
              refine w_blk bX12_mostBy_89 [.ref 72, .retAddr 0, .int v2, .int v3, .int v4, .int v5, .int v6, .int (v7 + (1 : Int32)), .int r10, .int (r12 - v5)] [] (sm_hp m) [] rfl (sm_on) ?_
              refine w_goto (tgt := 17) dX12_mostBy_92 rfl ?_
              refine w_wk [true, false, true, true, true, true, true, true, false, false] ?_
              exact ih v2 v3 v4 v5 v6 (v7 + (1 : Int32)) m r hf
            · replace hf := sm_iff hc hf
              refine w_blk bX12_mostBy_73 [.ref 72, .retAddr 0, .int v2, .int v3, .int v7, .int v5, .int v6, .int v7, .int r10, .int (r12 - v5)] [.int v7, .ref 72] (sm_hp m) [] rfl (sm_on) ?_
              replace hf := sm_bd hf
              obtain ⟨r16, q15, hf⟩ := hf
              refine w_callV [.int v7] [] (tX12_worthOf v7 m r16 q15) (cvX12_333 rfl) dX12_mostBy_80 rfl rfl (by decide) (by decide) rfl (Nat.le_of_ble_eq_true rfl) ?_
              show sm_W _ _ _ _ _ 83 [.ref 72, .retAddr 0, .int v2, .int v3, .int v7, .int v5, .int v6, .int v7, .int r10, .int (r12 - v5)] [.int r16] (sm_hp m)
              refine w_blk bX12_mostBy_83 [.ref 72, .retAddr 0, .int v2, .int v3, .int v7, .int r16, .int r10, .int v7, .int r10, .int (r12 - v5)] [] (sm_hp m) [] rfl (sm_on) ?_
              refine w_blk bX12_mostBy_89 [.ref 72, .retAddr 0, .int v2, .int v3, .int v7, .int r16, .int r10, .int (v7 + (1 : Int32)), .int r10, .int (r12 - v5)] [] (sm_hp m) [] rfl (sm_on) ?_
              refine w_goto (tgt := 17) dX12_mostBy_92 rfl ?_
              refine w_wk [true, false, true, true, true, true, true, true, false, false] ?_
              exact ih v2 v3 v7 r16 r10 (v7 + (1 : Int32)) m r hf
      · replace hf := sm_iff hc hf
        refine w_blk bX12_mostBy_41 [.ref 72, .retAddr 0, .int v2, .int v3, .int v4, .int v5, .int v6, .int v7, .int r10, .retAddr 0] [.int (-1 : Int32)] (sm_hp m) [] rfl (sm_on) ?_
        refine w_goto (tgt := 54) dX12_mostBy_42 rfl ?_
        refine w_blk bX12_mostBy_54 [.ref 72, .retAddr 0, .int v2, .int v3, .int v4, .int v5, .int v6, .int v7, .int r10, .int (-1 : Int32)] [.int (-1 : Int32)] (sm_hp m) [] rfl (sm_on) ?_
        refine w_if_gt (tgt := 73) dX12_mostBy_58 rfl (fun hc => absurd hc (by decide)) (fun _ => ?_)
        refine w_blk bX12_mostBy_61 [.ref 72, .retAddr 0, .int v2, .int v3, .int v4, .int v5, .int v6, .int v7, .int r10, .int (-1 : Int32)] [.int (-1 : Int32)] (sm_hp m) [] rfl (sm_on) ?_
        refine w_if_ne (tgt := 89) dX12_mostBy_63 rfl (fun _ => ?_) (fun hc => absurd hc (by decide))
        refine w_blk bX12_mostBy_89 [.ref 72, .retAddr 0, .int v2, .int v3, .int v4, .int v5, .int v6, .int (v7 + (1 : Int32)), .int r10, .int (-1 : Int32)] [] (sm_hp m) [] rfl (sm_on) ?_
        refine w_goto (tgt := 17) dX12_mostBy_92 rfl ?_
        refine w_wk [true, false, true, true, true, true, true, true, false, false] ?_
        exact ih v2 v3 v4 v5 v6 (v7 + (1 : Int32)) m r hf
set_option maxRecDepth 10000 in
theorem tX12_mostBy {l : Launch} {al : Bool} (x1 : Int32) (x2 : Int32) (x3 : Int32) (m : sm_S) (r : Int32 × sm_S) (hf : fX12_mostBy x1 x2 x3 m = some r) : sm_Rt l mX12_mostBy 3 0 0 al al [.ref 72, .int x1, .int x2, .int x3] (sm_hp m) (some (.int r.1), sm_hp r.2) := by
  refine sm_Rt.ofW (L := [.ref 72, .int x1, .int x2, .int x3, .retAddr 0, .retAddr 0, .retAddr 0, .retAddr 0, .retAddr 0, .retAddr 0]) (by decide) (Nat.le_of_ble_eq_true rfl) rfl ?_
  unfold fX12_mostBy at hf
  refine w_blk bX12_mostBy_0 [.ref 72, .int x1, .int x2, .int x3, .retAddr 0, .retAddr 0, .retAddr 0, .retAddr 0, .retAddr 0, .retAddr 0] [.int x1, .ref 72] (sm_hp m) [] rfl (sm_on) ?_
  replace hf := sm_bd hf
  obtain ⟨m2, q1, hf⟩ := hf
  refine w_callV [.int x1] [] (tX12_laysOut x1 m m2 q1) (cvX12_327 rfl) dX12_mostBy_2 rfl rfl (by decide) (by decide) rfl (Nat.le_of_ble_eq_true rfl) ?_
  show sm_W _ _ _ _ _ 5 [.ref 72, .int x1, .int x2, .int x3, .retAddr 0, .retAddr 0, .retAddr 0, .retAddr 0, .retAddr 0, .retAddr 0] [] (sm_hp m2)
  refine w_blk bX12_mostBy_5 [.ref 72, .int x1, .int x2, .int x3, .int (0 : Int32), .int (0 : Int32), .int (0 : Int32), .int (0 : Int32), .retAddr 0, .retAddr 0] [] (sm_hp m2) [] rfl (sm_on) ?_
  refine w_wk [true, false, true, true, true, true, true, true, false, false] ?_
  exact tX12_mostBy_17 sm_fu x2 x3 (0 : Int32) (0 : Int32) (0 : Int32) (0 : Int32) m2 r hf
set_option maxRecDepth 10000 in
theorem tX12_most {l : Launch} {al : Bool} (x1 : Int32) (x2 : Int32) (m : sm_S) (r : Int32 × sm_S) (hf : fX12_most x1 x2 m = some r) : sm_Rt l mX12_most 4 0 0 al al [.ref 72, .int x1, .int x2] (sm_hp m) (some (.int r.1), sm_hp r.2) := by
  refine sm_Rt.ofW (L := [.ref 72, .int x1, .int x2]) (by decide) (Nat.le_of_ble_eq_true rfl) rfl ?_
  unfold fX12_most at hf
  refine w_blk bX12_most_0 [.ref 72, .int x1, .int x2] [.int x1, .ref 72] (sm_hp (sm_w1 m 72 0 (0 : Int32))) [] rfl (sm_on) ?_
  replace hf := sm_bd hf
  obtain ⟨r2, q1, hf⟩ := hf
  refine w_callV [.int x1] [] (tX12_isCorner x1 (sm_w1 m 72 0 (0 : Int32)) r2 q1) (cvX12_157 rfl) dX12_most_7 rfl rfl (by decide) (by decide) rfl (Nat.le_of_ble_eq_true rfl) ?_
  show sm_W _ _ _ _ _ 10 [.ref 72, .int x1, .int x2] [.int r2] (sm_hp (sm_w1 m 72 0 (0 : Int32)))
  refine w_if_eq (tgt := 35) dX12_most_10 rfl (fun hc => ?_) (fun hc => ?_)
  · replace hf := sm_ift hc hf
    refine w_blk bX12_most_35 [.ref 72, .int x1, .int x2] [.int (-1 : Int32)] (sm_hp (sm_w1 m 72 0 (0 : Int32))) [] rfl (sm_on) ?_
    obtain rfl := Option.some.inj hf
    exact w_reti dX12_most_36 rfl rfl
  · replace hf := sm_iff hc hf
    refine w_blk bX12_most_13 [.ref 72, .int x1, .int x2] [.long (9999 : Int64), .long (0 : Int64), .long (x2).toInt64] (sm_hp (sm_w1 m 72 0 (0 : Int32))) [] rfl (sm_on) ?_
    replace hf := sm_bd hf
    obtain ⟨r4, q3, hf⟩ := hf
    refine w_callS [.long (x2).toInt64, .long (0 : Int64), .long (9999 : Int64)] [] (tX12_in (x2).toInt64 (0 : Int64) (9999 : Int64) (sm_w1 m 72 0 (0 : Int32)) r4 q3) (csX12_17 rfl) dX12_most_19 rfl rfl (by decide) (by decide) (Nat.le_of_ble_eq_true rfl) ?_
    show sm_W _ _ _ _ _ 22 [.ref 72, .int x1, .int x2] [.int r4] (sm_hp (sm_w1 m 72 0 (0 : Int32)))
    refine w_if_eq (tgt := 35) dX12_most_22 rfl (fun hc => ?_) (fun hc => ?_)
    · replace hf := sm_ift hc hf
      refine w_blk bX12_most_35 [.ref 72, .int x1, .int x2] [.int (-1 : Int32)] (sm_hp (sm_w1 m 72 0 (0 : Int32))) [] rfl (sm_on) ?_
      obtain rfl := Option.some.inj hf
      exact w_reti dX12_most_36 rfl rfl
    · replace hf := sm_iff hc hf
      refine w_blk bX12_most_25 [.ref 72, .int x1, .int x2] [.int (-1 : Int32), .int x2, .int x1, .ref 72] (sm_hp (sm_w1 m 72 0 (0 : Int32))) [] rfl (sm_on) ?_
      replace hf := sm_bd hf
      obtain ⟨r6, q5, hf⟩ := hf
      refine w_callV [.int x1, .int x2, .int (-1 : Int32)] [] (tX12_mostBy x1 x2 (-1 : Int32) (sm_w1 m 72 0 (0 : Int32)) r6 q5) (cvX12_336 rfl) dX12_most_29 rfl rfl (by decide) (by decide) rfl (Nat.le_of_ble_eq_true rfl) ?_
      show sm_W _ _ _ _ _ 32 [.ref 72, .int x1, .int x2] [.int r6.1] (sm_hp r6.2)
      refine w_goto (tgt := 36) dX12_most_32 rfl ?_
      obtain rfl := Option.some.inj hf
      exact w_reti dX12_most_36 rfl rfl
set_option maxRecDepth 10000 in
theorem tX12_home {l : Launch} {al : Bool} (x1 : Int32) (x2 : Int32) (m : sm_S) (r : Int32 × sm_S) (hf : fX12_home x1 x2 m = some r) : sm_Rt l mX12_home 4 0 0 al al [.ref 72, .int x1, .int x2] (sm_hp m) (some (.int r.1), sm_hp r.2) := by
  refine sm_Rt.ofW (L := [.ref 72, .int x1, .int x2]) (by decide) (Nat.le_of_ble_eq_true rfl) rfl ?_
  unfold fX12_home at hf
  refine w_blk bX12_home_0 [.ref 72, .int x1, .int x2] [.int x1, .ref 72] (sm_hp (sm_w1 m 72 0 (0 : Int32))) [] rfl (sm_on) ?_
  replace hf := sm_bd hf
  obtain ⟨r2, q1, hf⟩ := hf
  refine w_callV [.int x1] [] (tX12_isCorner x1 (sm_w1 m 72 0 (0 : Int32)) r2 q1) (cvX12_157 rfl) dX12_home_7 rfl rfl (by decide) (by decide) rfl (Nat.le_of_ble_eq_true rfl) ?_
  show sm_W _ _ _ _ _ 10 [.ref 72, .int x1, .int x2] [.int r2] (sm_hp (sm_w1 m 72 0 (0 : Int32)))
  refine w_if_eq (tgt := 35) dX12_home_10 rfl (fun hc => ?_) (fun hc => ?_)
  · replace hf := sm_ift hc hf
    refine w_blk bX12_home_35 [.ref 72, .int x1, .int x2] [.int (-1 : Int32)] (sm_hp (sm_w1 m 72 0 (0 : Int32))) [] rfl (sm_on) ?_
    obtain rfl := Option.some.inj hf
    exact w_reti dX12_home_36 rfl rfl
  · replace hf := sm_iff hc hf
    refine w_blk bX12_home_13 [.ref 72, .int x1, .int x2] [.long (9999 : Int64), .long (0 : Int64), .long (x2).toInt64] (sm_hp (sm_w1 m 72 0 (0 : Int32))) [] rfl (sm_on) ?_
    replace hf := sm_bd hf
    obtain ⟨r4, q3, hf⟩ := hf
    refine w_callS [.long (x2).toInt64, .long (0 : Int64), .long (9999 : Int64)] [] (tX12_in (x2).toInt64 (0 : Int64) (9999 : Int64) (sm_w1 m 72 0 (0 : Int32)) r4 q3) (csX12_17 rfl) dX12_home_19 rfl rfl (by decide) (by decide) (Nat.le_of_ble_eq_true rfl) ?_
    show sm_W _ _ _ _ _ 22 [.ref 72, .int x1, .int x2] [.int r4] (sm_hp (sm_w1 m 72 0 (0 : Int32)))
    refine w_if_eq (tgt := 35) dX12_home_22 rfl (fun hc => ?_) (fun hc => ?_)
    · replace hf := sm_ift hc hf
      refine w_blk bX12_home_35 [.ref 72, .int x1, .int x2] [.int (-1 : Int32)] (sm_hp (sm_w1 m 72 0 (0 : Int32))) [] rfl (sm_on) ?_
      obtain rfl := Option.some.inj hf
      exact w_reti dX12_home_36 rfl rfl
    · replace hf := sm_iff hc hf
      refine w_blk bX12_home_25 [.ref 72, .int x1, .int x2] [.int x1, .int x2, .int x1, .ref 72] (sm_hp (sm_w1 m 72 0 (0 : Int32))) [] rfl (sm_on) ?_
      replace hf := sm_bd hf
      obtain ⟨r6, q5, hf⟩ := hf
      refine w_callV [.int x1, .int x2, .int x1] [] (tX12_mostBy x1 x2 x1 (sm_w1 m 72 0 (0 : Int32)) r6 q5) (cvX12_336 rfl) dX12_home_29 rfl rfl (by decide) (by decide) rfl (Nat.le_of_ble_eq_true rfl) ?_
      show sm_W _ _ _ _ _ 32 [.ref 72, .int x1, .int x2] [.int r6.1] (sm_hp r6.2)
      refine w_goto (tgt := 36) dX12_home_32 rfl ?_
      obtain rfl := Option.some.inj hf
      exact w_reti dX12_home_36 rfl rfl
set_option maxRecDepth 10000 in
theorem tX12_soon_42 {l : Launch} {al : Bool} : ∀ (n : Nat) (v2 : Int32) (v3 : Int32) (v4 : Int32) (v5 : Int32) (m : sm_S) (r : Int32 × sm_S), fX12_soon_42 n v2 v3 v4 v5 m = some r → sm_W l mX12_soon 3 al (some (.int r.1), sm_hp r.2) 42 [.ref 72, .retAddr 0, .int v2, .int v3, .int v4, .int v5] [] (sm_hp m) := by
  intro n
  induction n with
  | zero =>
    intro v2 v3 v4 v5 m r hf
    unfold fX12_soon_42 at hf
    cases hf
  | succ n ih =>
    intro v2 v3 v4 v5 m r hf
    unfold fX12_soon_42 at hf
    refine w_blk bX12_soon_42 [.ref 72, .retAddr 0, .int v2, .int v3, .int v4, .int v5] [.ref 72, .int v5] (sm_hp m) [] rfl (sm_on) ?_
    replace hf := sm_bd hf
    obtain ⟨r8, q7, hf⟩ := hf
    refine w_callV [] [.int v5] (tX12_allHedges m r8 q7) (cvX12_266 rfl) dX12_soon_45 rfl rfl (by decide) (by decide) rfl (Nat.le_of_ble_eq_true rfl) ?_
    show sm_W _ _ _ _ _ 48 [.ref 72, .retAddr 0, .int v2, .int v3, .int v4, .int v5] [.int r8, .int v5] (sm_hp m)
    refine w_icmp_gt (tgt := 91) dX12_soon_48 rfl (fun hc => ?_) (fun hc => ?_)
    · replace hf := sm_ift hc hf
      refine w_blk bX12_soon_91 [.ref 72, .retAddr 0, .int v2, .int v3, .int v4, .int v5] [.int v3] (sm_hp m) [] rfl (sm_on) ?_
      refine w_if_ge (tgt := 98) dX12_soon_92 rfl (fun hc => ?_) (fun hc => ?_)
      · replace hf := sm_ift hc hf
        refine w_blk bX12_soon_98 [.ref 72, .retAddr 0, .int v2, .int v3, .int v4, .int v5] [.int v3, .ref 72] (sm_hp (sm_w1 m 72 1 (0 : Int32))) [] rfl (sm_on) ?_
        replace hf := sm_bd hf
        obtain ⟨m10, q9, hf⟩ := hf
        refine w_callV [.int v3] [] (tX12_enters v3 (sm_w1 m 72 1 (0 : Int32)) m10 q9) (cvX12_229 rfl) dX12_soon_105 rfl rfl (by decide) (by decide) rfl (Nat.le_of_ble_eq_true rfl) ?_
        show sm_W _ _ _ _ _ 108 [.ref 72, .retAddr 0, .int v2, .int v3, .int v4, .int v5] [] (sm_hp m10)
        refine w_blk bX12_soon_108 [.ref 72, .retAddr 0, .int v2, .int v3, .int v4, .int v5] [.int v4] (sm_hp m10) [] rfl (sm_on) ?_
        obtain rfl := Option.some.inj hf
        exact w_reti dX12_soon_110 rfl rfl
      · replace hf := sm_iff hc hf
        refine w_blk bX12_soon_95 [.ref 72, .retAddr 0, .int v2, .int v3, .int v4, .int v5] [.int (-2 : Int32)] (sm_hp m) [] rfl (sm_on) ?_
        obtain rfl := Option.some.inj hf
        exact w_reti dX12_soon_97 rfl rfl
    · replace hf := sm_iff hc hf
      refine w_blk bX12_soon_51 [.ref 72, .retAddr 0, .int v2, .int v3, .int v4, .int v5] [.int v5, .ref 72] (sm_hp m) [] rfl (sm_on) ?_
      replace hf := sm_bd hf
      obtain ⟨r12, q11, hf⟩ := hf
      refine w_callV [.int v5] [] (tX12_worthOf v5 m r12 q11) (cvX12_333 rfl) dX12_soon_54 rfl rfl (by decide) (by decide) rfl (Nat.le_of_ble_eq_true rfl) ?_
      show sm_W _ _ _ _ _ 57 [.ref 72, .retAddr 0, .int v2, .int v3, .int v4, .int v5] [.int r12] (sm_hp m)
      refine w_blk bX12_soon_57 [.ref 72, .retAddr 0, .int v2, .int v3, .int v4, .int v5] [.int v2, .int r12] (sm_hp m) [] rfl (sm_on) ?_
      refine w_icmp_lt (tgt := 85) dX12_soon_58 rfl (fun hc => ?_) (fun hc => ?_)
      · replace hf := sm_ift hc hf
        refine w_blk bX12_soon_85 [.ref 72, .retAddr 0, .int v2, .int v3, .int v4, .int (v5 + (1 : Int32))] [] (sm_hp m) [] rfl (sm_on) ?_
        refine w_goto (tgt := 42) dX12_soon_88 rfl ?_
        exact ih v2 v3 v4 (v5 + (1 : Int32)) m r hf
      · replace hf := sm_iff hc hf
        refine w_blk bX12_soon_61 [.ref 72, .retAddr 0, .int v2, .int v3, .int v4, .int v5] [.int (-1 : Int32), .int v5, .ref 72] (sm_hp m) [] rfl (sm_on) ?_
        replace hf := sm_bd hf
        obtain ⟨r14, q13, hf⟩ := hf
        refine w_callV [.int v5, .int (-1 : Int32)] [] (tX12_soonest v5 (-1 : Int32) m r14 q13) (cvX12_330 rfl) dX12_soon_65 rfl rfl (by decide) (by decide) rfl (Nat.le_of_ble_eq_true rfl) ?_
        show sm_W _ _ _ _ _ 68 [.ref 72, .retAddr 0, .int v2, .int v3, .int v4, .int v5] [.int r14] (sm_hp m)
        refine w_blk bX12_soon_68 [.ref 72, .retAddr 0, .int v2, .int v3, .int v4, .int v5] [.int v4, .int r14] (sm_hp m) [] rfl (sm_on) ?_
        refine w_icmp_ge (tgt := 85) dX12_soon_70 rfl (fun hc => ?_) (fun hc => ?_)
        · replace hf := sm_ift hc hf
          refine w_blk bX12_soon_85 [.ref 72, .retAddr 0, .int v2, .int v3, .int v4, .int (v5 + (1 : Int32))] [] (sm_hp m) [] rfl (sm_on) ?_
          refine w_goto (tgt := 42) dX12_soon_88 rfl ?_
          exact ih v2 v3 v4 (v5 + (1 : Int32)) m r hf
        · replace hf := sm_iff hc hf
          refine w_blk bX12_soon_73 [.ref 72, .retAddr 0, .int v2, .int v5, .int v4, .int v5] [.int (-1 : Int32), .int v5, .ref 72] (sm_hp m) [] rfl (sm_on) ?_
          replace hf := sm_bd hf
          obtain ⟨r16, q15, hf⟩ := hf
          refine w_callV [.int v5, .int (-1 : Int32)] [] (tX12_soonest v5 (-1 : Int32) m r16 q15) (cvX12_330 rfl) dX12_soon_80 rfl rfl (by decide) (by decide) rfl (Nat.le_of_ble_eq_true rfl) ?_
          show sm_W _ _ _ _ _ 83 [.ref 72, .retAddr 0, .int v2, .int v5, .int v4, .int v5] [.int r16] (sm_hp m)
          refine w_blk bX12_soon_83 [.ref 72, .retAddr 0, .int v2, .int v5, .int r16, .int v5] [] (sm_hp m) [] rfl (sm_on) ?_
          refine w_blk bX12_soon_85 [.ref 72, .retAddr 0, .int v2, .int v5, .int r16, .int (v5 + (1 : Int32))] [] (sm_hp m) [] rfl (sm_on) ?_
          refine w_goto (tgt := 42) dX12_soon_88 rfl ?_
          exact ih v2 v5 r16 (v5 + (1 : Int32)) m r hf
