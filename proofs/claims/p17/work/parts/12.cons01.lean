set_option maxRecDepth 20000 in
theorem nX8_init_1 {l : Launch} : sm_Rt l mX8_init 1 1 80 true true [.ref 1] hz2 (none, hz4) := by
  refine sm_Rt.ofV (L := [.ref 1]) (by decide) (Nat.le_of_ble_eq_true rfl) rfl ?_
  refine v_blk bX8_init_0 [.ref 1] [.ref 1] hz2 [] rfl (sm_on) ?_
  refine v_obj dX8_init_1 (by decide) wmX8_3 wiObj wcObj (Nat.le_of_ble_eq_true rfl) ?_
  refine v_blk bX8_init_4 [.ref 1] [.int (80 : Int32), .ref 1] hz2 [] rfl (sm_on) ?_
  refine v_newi (t := 102) (i0 := 2) (N := 80) 0 0 dX8_init_7 rfl wA_char (by decide) (by decide) (by decide) (fun _ _ h => h) (by decide) (fun ba cA => sm_enz_i rfl rfl rfl rfl cA) ?_
  show sm_V _ _ _ _ _ _ 9 [.ref 1] [.ref 2, .ref 1] hz3 _ _
  refine v_blk bX8_init_9 [.ref 1] [] hz4 [] rfl (sm_on) ?_
  exact v_retv dX8_init_37 rfl
set_option maxRecDepth 20000 in
theorem nX2_init_3 {l : Launch} : sm_Rt l mX2_init 1 10 132 true true [.ref 3] hz6 (none, hz27) := by
  refine sm_Rt.ofV (L := [.ref 3]) (by decide) (Nat.le_of_ble_eq_true rfl) rfl ?_
  refine v_blk bX2_init_0 [.ref 3] [.ref 3] hz6 [] rfl (sm_on) ?_
  refine v_obj dX2_init_1 (by decide) wmX2_3 wiObj wcObj (Nat.le_of_ble_eq_true rfl) ?_
  refine v_blk bX2_init_4 [.ref 3] [.int (10 : Int32), .ref 3] hz7 [] rfl (sm_on) ?_
  refine v_newi (t := 100) (i0 := 0) (N := 10) 9 122 dX2_init_30 rfl wA_int (by decide) (by decide) (by decide) (fun _ _ h => h) (by decide) (fun ba cA => sm_enz_i rfl rfl rfl rfl cA) ?_
  show sm_V _ _ _ _ _ _ 32 [.ref 3] [.ref 4, .ref 3] hz8 _ _
  refine v_blk bX2_init_32 [.ref 3] [.int (10 : Int32), .ref 3] hz9 [] rfl (sm_on) ?_
  refine v_newi (t := 100) (i0 := 0) (N := 10) 8 112 dX2_init_38 rfl wA_int (by decide) (by decide) (by decide) (fun _ _ h => h) (by decide) (fun ba cA => sm_enz_i rfl rfl rfl rfl cA) ?_
  show sm_V _ _ _ _ _ _ 40 [.ref 3] [.ref 5, .ref 3] hz10 _ _
  refine v_blk bX2_init_40 [.ref 3] [.int (14 : Int32), .ref 3] hz11 [] rfl (sm_on) ?_
  refine v_newi (t := 100) (i0 := 0) (N := 14) 7 98 dX2_init_46 rfl wA_int (by decide) (by decide) (by decide) (fun _ _ h => h) (by decide) (fun ba cA => sm_enz_i rfl rfl rfl rfl cA) ?_
  show sm_V _ _ _ _ _ _ 48 [.ref 3] [.ref 6, .ref 3] hz12 _ _
  refine v_blk bX2_init_48 [.ref 3] [.int (14 : Int32), .ref 3] hz13 [] rfl (sm_on) ?_
  refine v_newi (t := 100) (i0 := 0) (N := 14) 6 84 dX2_init_54 rfl wA_int (by decide) (by decide) (by decide) (fun _ _ h => h) (by decide) (fun ba cA => sm_enz_i rfl rfl rfl rfl cA) ?_
  show sm_V _ _ _ _ _ _ 56 [.ref 3] [.ref 7, .ref 3] hz14 _ _
  refine v_blk bX2_init_56 [.ref 3] [.int (14 : Int32), .ref 3] hz15 [] rfl (sm_on) ?_
  refine v_newi (t := 100) (i0 := 0) (N := 14) 5 70 dX2_init_62 rfl wA_int (by decide) (by decide) (by decide) (fun _ _ h => h) (by decide) (fun ba cA => sm_enz_i rfl rfl rfl rfl cA) ?_
  show sm_V _ _ _ _ _ _ 64 [.ref 3] [.ref 8, .ref 3] hz16 _ _
  refine v_blk bX2_init_64 [.ref 3] [.int (14 : Int32), .ref 3] hz17 [] rfl (sm_on) ?_
  refine v_newi (t := 100) (i0 := 0) (N := 14) 4 56 dX2_init_70 rfl wA_int (by decide) (by decide) (by decide) (fun _ _ h => h) (by decide) (fun ba cA => sm_enz_i rfl rfl rfl rfl cA) ?_
  show sm_V _ _ _ _ _ _ 72 [.ref 3] [.ref 9, .ref 3] hz18 _ _
  refine v_blk bX2_init_72 [.ref 3] [.int (14 : Int32), .ref 3] hz19 [] rfl (sm_on) ?_
  refine v_newi (t := 100) (i0 := 0) (N := 14) 3 42 dX2_init_78 rfl wA_int (by decide) (by decide) (by decide) (fun _ _ h => h) (by decide) (fun ba cA => sm_enz_i rfl rfl rfl rfl cA) ?_
  show sm_V _ _ _ _ _ _ 80 [.ref 3] [.ref 10, .ref 3] hz20 _ _
  refine v_blk bX2_init_80 [.ref 3] [.int (14 : Int32), .ref 3] hz21 [] rfl (sm_on) ?_
  refine v_newi (t := 100) (i0 := 0) (N := 14) 2 28 dX2_init_86 rfl wA_int (by decide) (by decide) (by decide) (fun _ _ h => h) (by decide) (fun ba cA => sm_enz_i rfl rfl rfl rfl cA) ?_
  show sm_V _ _ _ _ _ _ 88 [.ref 3] [.ref 11, .ref 3] hz22 _ _
  refine v_blk bX2_init_88 [.ref 3] [.int (14 : Int32), .ref 3] hz23 [] rfl (sm_on) ?_
  refine v_newi (t := 100) (i0 := 0) (N := 14) 1 14 dX2_init_94 rfl wA_int (by decide) (by decide) (by decide) (fun _ _ h => h) (by decide) (fun ba cA => sm_enz_i rfl rfl rfl rfl cA) ?_
  show sm_V _ _ _ _ _ _ 96 [.ref 3] [.ref 12, .ref 3] hz24 _ _
  refine v_blk bX2_init_96 [.ref 3] [.int (14 : Int32), .ref 3] hz25 [] rfl (sm_on) ?_
  refine v_newi (t := 103) (i0 := 3) (N := 14) 0 0 dX2_init_102 rfl wA_boolean (by decide) (by decide) (by decide) (fun _ _ h => h) (by decide) (fun ba cA => sm_enz_i rfl rfl rfl rfl cA) ?_
  show sm_V _ _ _ _ _ _ 104 [.ref 3] [.ref 13, .ref 3] hz26 _ _
  refine v_blk bX2_init_104 [.ref 3] [] hz27 [] rfl (sm_on) ?_
  exact v_retv dX2_init_107 rfl
set_option maxRecDepth 20000 in
theorem nX5_init_14 {l : Launch} : sm_Rt l mX5_init 1 1 14 true true [.ref 14] hz29 (none, hz31) := by
  refine sm_Rt.ofV (L := [.ref 14]) (by decide) (Nat.le_of_ble_eq_true rfl) rfl ?_
  refine v_blk bX5_init_0 [.ref 14] [.ref 14] hz29 [] rfl (sm_on) ?_
  refine v_obj dX5_init_1 (by decide) wmX5_3 wiObj wcObj (Nat.le_of_ble_eq_true rfl) ?_
  refine v_blk bX5_init_4 [.ref 14] [.int (14 : Int32), .ref 14] hz29 [] rfl (sm_on) ?_
  refine v_newi (t := 100) (i0 := 0) (N := 14) 0 0 dX5_init_7 rfl wA_int (by decide) (by decide) (by decide) (fun _ _ h => h) (by decide) (fun ba cA => sm_enz_i rfl rfl rfl rfl cA) ?_
  show sm_V _ _ _ _ _ _ 9 [.ref 14] [.ref 15, .ref 14] hz30 _ _
  refine v_blk bX5_init_9 [.ref 14] [] hz31 [] rfl (sm_on) ?_
  exact v_retv dX5_init_17 rfl
set_option maxRecDepth 20000 in
theorem nX6_init_16 {l : Launch} : sm_Rt l mX6_init 1 1 14 true true [.ref 16] hz33 (none, hz50) := by
  refine sm_Rt.ofV (L := [.ref 16, .retAddr 0]) (by decide) (Nat.le_of_ble_eq_true rfl) rfl ?_
  refine v_blk bX6_init_0 [.ref 16, .retAddr 0] [.ref 16] hz33 [] rfl (sm_on) ?_
  refine v_obj dX6_init_1 (by decide) wmX6_3 wiObj wcObj (Nat.le_of_ble_eq_true rfl) ?_
  refine v_blk bX6_init_4 [.ref 16, .retAddr 0] [.int (14 : Int32), .ref 16] hz34 [] rfl (sm_on) ?_
  refine v_newi (t := 100) (i0 := 0) (N := 14) 0 0 dX6_init_17 rfl wA_int (by decide) (by decide) (by decide) (fun _ _ h => h) (by decide) (fun ba cA => sm_enz_i rfl rfl rfl rfl cA) ?_
  show sm_V _ _ _ _ _ _ 19 [.ref 16, .retAddr 0] [.ref 17, .ref 16] hz35 _ _
  refine v_blk bX6_init_19 [.ref 16, .int (0 : Int32)] [] hz36 [] rfl (sm_on) ?_
  refine v_blk bX6_init_24 [.ref 16, .int (0 : Int32)] [.int (14 : Int32), .int (0 : Int32)] hz36 [] rfl (sm_on) ?_
  refine v_icmp_ge (tgt := 43) dX6_init_27 rfl (fun hc => absurd hc (by decide)) (fun _ => ?_)
  refine v_blk bX6_init_30 [.ref 16, .int (1 : Int32)] [] hz37 [((0 : Int32), 14)] rfl (sm_oc (by decide) (sm_on)) ?_
  refine v_goto (tgt := 24) dX6_init_40 rfl ?_
  refine v_blk bX6_init_24 [.ref 16, .int (1 : Int32)] [.int (14 : Int32), .int (1 : Int32)] hz37 [] rfl (sm_on) ?_
  refine v_icmp_ge (tgt := 43) dX6_init_27 rfl (fun hc => absurd hc (by decide)) (fun _ => ?_)
  refine v_blk bX6_init_30 [.ref 16, .int (2 : Int32)] [] hz38 [((1 : Int32), 14)] rfl (sm_oc (by decide) (sm_on)) ?_
  refine v_goto (tgt := 24) dX6_init_40 rfl ?_
  refine v_blk bX6_init_24 [.ref 16, .int (2 : Int32)] [.int (14 : Int32), .int (2 : Int32)] hz38 [] rfl (sm_on) ?_
  refine v_icmp_ge (tgt := 43) dX6_init_27 rfl (fun hc => absurd hc (by decide)) (fun _ => ?_)
  refine v_blk bX6_init_30 [.ref 16, .int (3 : Int32)] [] hz39 [((2 : Int32), 14)] rfl (sm_oc (by decide) (sm_on)) ?_
  refine v_goto (tgt := 24) dX6_init_40 rfl ?_
  refine v_blk bX6_init_24 [.ref 16, .int (3 : Int32)] [.int (14 : Int32), .int (3 : Int32)] hz39 [] rfl (sm_on) ?_
  refine v_icmp_ge (tgt := 43) dX6_init_27 rfl (fun hc => absurd hc (by decide)) (fun _ => ?_)
  refine v_blk bX6_init_30 [.ref 16, .int (4 : Int32)] [] hz40 [((3 : Int32), 14)] rfl (sm_oc (by decide) (sm_on)) ?_
  refine v_goto (tgt := 24) dX6_init_40 rfl ?_
  refine v_blk bX6_init_24 [.ref 16, .int (4 : Int32)] [.int (14 : Int32), .int (4 : Int32)] hz40 [] rfl (sm_on) ?_
  refine v_icmp_ge (tgt := 43) dX6_init_27 rfl (fun hc => absurd hc (by decide)) (fun _ => ?_)
  refine v_blk bX6_init_30 [.ref 16, .int (5 : Int32)] [] hz41 [((4 : Int32), 14)] rfl (sm_oc (by decide) (sm_on)) ?_
  refine v_goto (tgt := 24) dX6_init_40 rfl ?_
  refine v_blk bX6_init_24 [.ref 16, .int (5 : Int32)] [.int (14 : Int32), .int (5 : Int32)] hz41 [] rfl (sm_on) ?_
  refine v_icmp_ge (tgt := 43) dX6_init_27 rfl (fun hc => absurd hc (by decide)) (fun _ => ?_)
  refine v_blk bX6_init_30 [.ref 16, .int (6 : Int32)] [] hz42 [((5 : Int32), 14)] rfl (sm_oc (by decide) (sm_on)) ?_
  refine v_goto (tgt := 24) dX6_init_40 rfl ?_
  refine v_blk bX6_init_24 [.ref 16, .int (6 : Int32)] [.int (14 : Int32), .int (6 : Int32)] hz42 [] rfl (sm_on) ?_
  refine v_icmp_ge (tgt := 43) dX6_init_27 rfl (fun hc => absurd hc (by decide)) (fun _ => ?_)
  refine v_blk bX6_init_30 [.ref 16, .int (7 : Int32)] [] hz43 [((6 : Int32), 14)] rfl (sm_oc (by decide) (sm_on)) ?_
  refine v_goto (tgt := 24) dX6_init_40 rfl ?_
  refine v_blk bX6_init_24 [.ref 16, .int (7 : Int32)] [.int (14 : Int32), .int (7 : Int32)] hz43 [] rfl (sm_on) ?_
  refine v_icmp_ge (tgt := 43) dX6_init_27 rfl (fun hc => absurd hc (by decide)) (fun _ => ?_)
  refine v_blk bX6_init_30 [.ref 16, .int (8 : Int32)] [] hz44 [((7 : Int32), 14)] rfl (sm_oc (by decide) (sm_on)) ?_
  refine v_goto (tgt := 24) dX6_init_40 rfl ?_
  refine v_blk bX6_init_24 [.ref 16, .int (8 : Int32)] [.int (14 : Int32), .int (8 : Int32)] hz44 [] rfl (sm_on) ?_
  refine v_icmp_ge (tgt := 43) dX6_init_27 rfl (fun hc => absurd hc (by decide)) (fun _ => ?_)
  refine v_blk bX6_init_30 [.ref 16, .int (9 : Int32)] [] hz45 [((8 : Int32), 14)] rfl (sm_oc (by decide) (sm_on)) ?_
  refine v_goto (tgt := 24) dX6_init_40 rfl ?_
  refine v_blk bX6_init_24 [.ref 16, .int (9 : Int32)] [.int (14 : Int32), .int (9 : Int32)] hz45 [] rfl (sm_on) ?_
  refine v_icmp_ge (tgt := 43) dX6_init_27 rfl (fun hc => absurd hc (by decide)) (fun _ => ?_)
  refine v_blk bX6_init_30 [.ref 16, .int (10 : Int32)] [] hz46 [((9 : Int32), 14)] rfl (sm_oc (by decide) (sm_on)) ?_
  refine v_goto (tgt := 24) dX6_init_40 rfl ?_
  refine v_blk bX6_init_24 [.ref 16, .int (10 : Int32)] [.int (14 : Int32), .int (10 : Int32)] hz46 [] rfl (sm_on) ?_
  refine v_icmp_ge (tgt := 43) dX6_init_27 rfl (fun hc => absurd hc (by decide)) (fun _ => ?_)
  refine v_blk bX6_init_30 [.ref 16, .int (11 : Int32)] [] hz47 [((10 : Int32), 14)] rfl (sm_oc (by decide) (sm_on)) ?_
  refine v_goto (tgt := 24) dX6_init_40 rfl ?_
  refine v_blk bX6_init_24 [.ref 16, .int (11 : Int32)] [.int (14 : Int32), .int (11 : Int32)] hz47 [] rfl (sm_on) ?_
  refine v_icmp_ge (tgt := 43) dX6_init_27 rfl (fun hc => absurd hc (by decide)) (fun _ => ?_)
  refine v_blk bX6_init_30 [.ref 16, .int (12 : Int32)] [] hz48 [((11 : Int32), 14)] rfl (sm_oc (by decide) (sm_on)) ?_
  refine v_goto (tgt := 24) dX6_init_40 rfl ?_
  refine v_blk bX6_init_24 [.ref 16, .int (12 : Int32)] [.int (14 : Int32), .int (12 : Int32)] hz48 [] rfl (sm_on) ?_
  refine v_icmp_ge (tgt := 43) dX6_init_27 rfl (fun hc => absurd hc (by decide)) (fun _ => ?_)
  refine v_blk bX6_init_30 [.ref 16, .int (13 : Int32)] [] hz49 [((12 : Int32), 14)] rfl (sm_oc (by decide) (sm_on)) ?_
  refine v_goto (tgt := 24) dX6_init_40 rfl ?_
  refine v_blk bX6_init_24 [.ref 16, .int (13 : Int32)] [.int (14 : Int32), .int (13 : Int32)] hz49 [] rfl (sm_on) ?_
  refine v_icmp_ge (tgt := 43) dX6_init_27 rfl (fun hc => absurd hc (by decide)) (fun _ => ?_)
  refine v_blk bX6_init_30 [.ref 16, .int (14 : Int32)] [] hz50 [((13 : Int32), 14)] rfl (sm_oc (by decide) (sm_on)) ?_
  refine v_goto (tgt := 24) dX6_init_40 rfl ?_
  refine v_blk bX6_init_24 [.ref 16, .int (14 : Int32)] [.int (14 : Int32), .int (14 : Int32)] hz50 [] rfl (sm_on) ?_
  refine v_icmp_ge (tgt := 43) dX6_init_27 rfl (fun _ => ?_) (fun hc => absurd hc (by decide))
  exact v_retv dX6_init_43 rfl
set_option maxRecDepth 20000 in
theorem nX6_init_18 {l : Launch} : sm_Rt l mX6_init 1 1 14 true true [.ref 18] hz52 (none, hz69) := by
  refine sm_Rt.ofV (L := [.ref 18, .retAddr 0]) (by decide) (Nat.le_of_ble_eq_true rfl) rfl ?_
  refine v_blk bX6_init_0 [.ref 18, .retAddr 0] [.ref 18] hz52 [] rfl (sm_on) ?_
  refine v_obj dX6_init_1 (by decide) wmX6_3 wiObj wcObj (Nat.le_of_ble_eq_true rfl) ?_
  refine v_blk bX6_init_4 [.ref 18, .retAddr 0] [.int (14 : Int32), .ref 18] hz53 [] rfl (sm_on) ?_
  refine v_newi (t := 100) (i0 := 0) (N := 14) 0 0 dX6_init_17 rfl wA_int (by decide) (by decide) (by decide) (fun _ _ h => h) (by decide) (fun ba cA => sm_enz_i rfl rfl rfl rfl cA) ?_
  show sm_V _ _ _ _ _ _ 19 [.ref 18, .retAddr 0] [.ref 19, .ref 18] hz54 _ _
  refine v_blk bX6_init_19 [.ref 18, .int (0 : Int32)] [] hz55 [] rfl (sm_on) ?_
  refine v_blk bX6_init_24 [.ref 18, .int (0 : Int32)] [.int (14 : Int32), .int (0 : Int32)] hz55 [] rfl (sm_on) ?_
  refine v_icmp_ge (tgt := 43) dX6_init_27 rfl (fun hc => absurd hc (by decide)) (fun _ => ?_)
  refine v_blk bX6_init_30 [.ref 18, .int (1 : Int32)] [] hz56 [((0 : Int32), 14)] rfl (sm_oc (by decide) (sm_on)) ?_
  refine v_goto (tgt := 24) dX6_init_40 rfl ?_
  refine v_blk bX6_init_24 [.ref 18, .int (1 : Int32)] [.int (14 : Int32), .int (1 : Int32)] hz56 [] rfl (sm_on) ?_
  refine v_icmp_ge (tgt := 43) dX6_init_27 rfl (fun hc => absurd hc (by decide)) (fun _ => ?_)
  refine v_blk bX6_init_30 [.ref 18, .int (2 : Int32)] [] hz57 [((1 : Int32), 14)] rfl (sm_oc (by decide) (sm_on)) ?_
  refine v_goto (tgt := 24) dX6_init_40 rfl ?_
  refine v_blk bX6_init_24 [.ref 18, .int (2 : Int32)] [.int (14 : Int32), .int (2 : Int32)] hz57 [] rfl (sm_on) ?_
  refine v_icmp_ge (tgt := 43) dX6_init_27 rfl (fun hc => absurd hc (by decide)) (fun _ => ?_)
  refine v_blk bX6_init_30 [.ref 18, .int (3 : Int32)] [] hz58 [((2 : Int32), 14)] rfl (sm_oc (by decide) (sm_on)) ?_
  refine v_goto (tgt := 24) dX6_init_40 rfl ?_
  refine v_blk bX6_init_24 [.ref 18, .int (3 : Int32)] [.int (14 : Int32), .int (3 : Int32)] hz58 [] rfl (sm_on) ?_
  refine v_icmp_ge (tgt := 43) dX6_init_27 rfl (fun hc => absurd hc (by decide)) (fun _ => ?_)
  refine v_blk bX6_init_30 [.ref 18, .int (4 : Int32)] [] hz59 [((3 : Int32), 14)] rfl (sm_oc (by decide) (sm_on)) ?_
  refine v_goto (tgt := 24) dX6_init_40 rfl ?_
  refine v_blk bX6_init_24 [.ref 18, .int (4 : Int32)] [.int (14 : Int32), .int (4 : Int32)] hz59 [] rfl (sm_on) ?_
  refine v_icmp_ge (tgt := 43) dX6_init_27 rfl (fun hc => absurd hc (by decide)) (fun _ => ?_)
  refine v_blk bX6_init_30 [.ref 18, .int (5 : Int32)] [] hz60 [((4 : Int32), 14)] rfl (sm_oc (by decide) (sm_on)) ?_
  refine v_goto (tgt := 24) dX6_init_40 rfl ?_
  refine v_blk bX6_init_24 [.ref 18, .int (5 : Int32)] [.int (14 : Int32), .int (5 : Int32)] hz60 [] rfl (sm_on) ?_
  refine v_icmp_ge (tgt := 43) dX6_init_27 rfl (fun hc => absurd hc (by decide)) (fun _ => ?_)
  refine v_blk bX6_init_30 [.ref 18, .int (6 : Int32)] [] hz61 [((5 : Int32), 14)] rfl (sm_oc (by decide) (sm_on)) ?_
  refine v_goto (tgt := 24) dX6_init_40 rfl ?_
  refine v_blk bX6_init_24 [.ref 18, .int (6 : Int32)] [.int (14 : Int32), .int (6 : Int32)] hz61 [] rfl (sm_on) ?_
  refine v_icmp_ge (tgt := 43) dX6_init_27 rfl (fun hc => absurd hc (by decide)) (fun _ => ?_)
  refine v_blk bX6_init_30 [.ref 18, .int (7 : Int32)] [] hz62 [((6 : Int32), 14)] rfl (sm_oc (by decide) (sm_on)) ?_
  refine v_goto (tgt := 24) dX6_init_40 rfl ?_
  refine v_blk bX6_init_24 [.ref 18, .int (7 : Int32)] [.int (14 : Int32), .int (7 : Int32)] hz62 [] rfl (sm_on) ?_
  refine v_icmp_ge (tgt := 43) dX6_init_27 rfl (fun hc => absurd hc (by decide)) (fun _ => ?_)
  refine v_blk bX6_init_30 [.ref 18, .int (8 : Int32)] [] hz63 [((7 : Int32), 14)] rfl (sm_oc (by decide) (sm_on)) ?_
  refine v_goto (tgt := 24) dX6_init_40 rfl ?_
  refine v_blk bX6_init_24 [.ref 18, .int (8 : Int32)] [.int (14 : Int32), .int (8 : Int32)] hz63 [] rfl (sm_on) ?_
  refine v_icmp_ge (tgt := 43) dX6_init_27 rfl (fun hc => absurd hc (by decide)) (fun _ => ?_)
  refine v_blk bX6_init_30 [.ref 18, .int (9 : Int32)] [] hz64 [((8 : Int32), 14)] rfl (sm_oc (by decide) (sm_on)) ?_
  refine v_goto (tgt := 24) dX6_init_40 rfl ?_
  refine v_blk bX6_init_24 [.ref 18, .int (9 : Int32)] [.int (14 : Int32), .int (9 : Int32)] hz64 [] rfl (sm_on) ?_
  refine v_icmp_ge (tgt := 43) dX6_init_27 rfl (fun hc => absurd hc (by decide)) (fun _ => ?_)
  refine v_blk bX6_init_30 [.ref 18, .int (10 : Int32)] [] hz65 [((9 : Int32), 14)] rfl (sm_oc (by decide) (sm_on)) ?_
  refine v_goto (tgt := 24) dX6_init_40 rfl ?_
  refine v_blk bX6_init_24 [.ref 18, .int (10 : Int32)] [.int (14 : Int32), .int (10 : Int32)] hz65 [] rfl (sm_on) ?_
  refine v_icmp_ge (tgt := 43) dX6_init_27 rfl (fun hc => absurd hc (by decide)) (fun _ => ?_)
  refine v_blk bX6_init_30 [.ref 18, .int (11 : Int32)] [] hz66 [((10 : Int32), 14)] rfl (sm_oc (by decide) (sm_on)) ?_
  refine v_goto (tgt := 24) dX6_init_40 rfl ?_
  refine v_blk bX6_init_24 [.ref 18, .int (11 : Int32)] [.int (14 : Int32), .int (11 : Int32)] hz66 [] rfl (sm_on) ?_
  refine v_icmp_ge (tgt := 43) dX6_init_27 rfl (fun hc => absurd hc (by decide)) (fun _ => ?_)
  refine v_blk bX6_init_30 [.ref 18, .int (12 : Int32)] [] hz67 [((11 : Int32), 14)] rfl (sm_oc (by decide) (sm_on)) ?_
  refine v_goto (tgt := 24) dX6_init_40 rfl ?_
  refine v_blk bX6_init_24 [.ref 18, .int (12 : Int32)] [.int (14 : Int32), .int (12 : Int32)] hz67 [] rfl (sm_on) ?_
  refine v_icmp_ge (tgt := 43) dX6_init_27 rfl (fun hc => absurd hc (by decide)) (fun _ => ?_)
  refine v_blk bX6_init_30 [.ref 18, .int (13 : Int32)] [] hz68 [((12 : Int32), 14)] rfl (sm_oc (by decide) (sm_on)) ?_
  refine v_goto (tgt := 24) dX6_init_40 rfl ?_
  refine v_blk bX6_init_24 [.ref 18, .int (13 : Int32)] [.int (14 : Int32), .int (13 : Int32)] hz68 [] rfl (sm_on) ?_
  refine v_icmp_ge (tgt := 43) dX6_init_27 rfl (fun hc => absurd hc (by decide)) (fun _ => ?_)
  refine v_blk bX6_init_30 [.ref 18, .int (14 : Int32)] [] hz69 [((13 : Int32), 14)] rfl (sm_oc (by decide) (sm_on)) ?_
  refine v_goto (tgt := 24) dX6_init_40 rfl ?_
  refine v_blk bX6_init_24 [.ref 18, .int (14 : Int32)] [.int (14 : Int32), .int (14 : Int32)] hz69 [] rfl (sm_on) ?_
  refine v_icmp_ge (tgt := 43) dX6_init_27 rfl (fun _ => ?_) (fun hc => absurd hc (by decide))
  exact v_retv dX6_init_43 rfl
set_option maxRecDepth 20000 in
theorem nX7_init_20 {l : Launch} : sm_Rt l mX7_init 1 4 120 true true [.ref 20] hz71 (none, hz80) := by
  refine sm_Rt.ofV (L := [.ref 20]) (by decide) (Nat.le_of_ble_eq_true rfl) rfl ?_
  refine v_blk bX7_init_0 [.ref 20] [.ref 20] hz71 [] rfl (sm_on) ?_
  refine v_obj dX7_init_1 (by decide) wmX7_3 wiObj wcObj (Nat.le_of_ble_eq_true rfl) ?_
  refine v_blk bX7_init_4 [.ref 20] [.int (30 : Int32), .ref 20] hz72 [] rfl (sm_on) ?_
  refine v_newi (t := 100) (i0 := 0) (N := 30) 3 90 dX7_init_17 rfl wA_int (by decide) (by decide) (by decide) (fun _ _ h => h) (by decide) (fun ba cA => sm_enz_i rfl rfl rfl rfl cA) ?_
  show sm_V _ _ _ _ _ _ 19 [.ref 20] [.ref 21, .ref 20] hz73 _ _
  refine v_blk bX7_init_19 [.ref 20] [.int (30 : Int32), .ref 20] hz74 [] rfl (sm_on) ?_
  refine v_newi (t := 100) (i0 := 0) (N := 30) 2 60 dX7_init_25 rfl wA_int (by decide) (by decide) (by decide) (fun _ _ h => h) (by decide) (fun ba cA => sm_enz_i rfl rfl rfl rfl cA) ?_
  show sm_V _ _ _ _ _ _ 27 [.ref 20] [.ref 22, .ref 20] hz75 _ _
  refine v_blk bX7_init_27 [.ref 20] [.int (30 : Int32), .ref 20] hz76 [] rfl (sm_on) ?_
  refine v_newi (t := 100) (i0 := 0) (N := 30) 1 30 dX7_init_33 rfl wA_int (by decide) (by decide) (by decide) (fun _ _ h => h) (by decide) (fun ba cA => sm_enz_i rfl rfl rfl rfl cA) ?_
  show sm_V _ _ _ _ _ _ 35 [.ref 20] [.ref 23, .ref 20] hz77 _ _
  refine v_blk bX7_init_35 [.ref 20] [.int (30 : Int32), .ref 20] hz78 [] rfl (sm_on) ?_
  refine v_newi (t := 100) (i0 := 0) (N := 30) 0 0 dX7_init_41 rfl wA_int (by decide) (by decide) (by decide) (fun _ _ h => h) (by decide) (fun ba cA => sm_enz_i rfl rfl rfl rfl cA) ?_
  show sm_V _ _ _ _ _ _ 43 [.ref 20] [.ref 24, .ref 20] hz79 _ _
  refine v_blk bX7_init_43 [.ref 20] [] hz80 [] rfl (sm_on) ?_
  exact v_retv dX7_init_46 rfl
set_option maxRecDepth 20000 in
theorem nX3_init_29 {l : Launch} : sm_Rt l mX3_init 1 1 769 true true [.ref 29, .int (3072 : Int32)] hz89 (none, hz92) := by
  refine sm_Rt.ofV (L := [.ref 29, .int (3072 : Int32)]) (by decide) (Nat.le_of_ble_eq_true rfl) rfl ?_
  refine v_blk bX3_init_0 [.ref 29, .int (3072 : Int32)] [.ref 29] hz89 [] rfl (sm_on) ?_
  refine v_obj dX3_init_1 (by decide) wmX3_3 wiObj wcObj (Nat.le_of_ble_eq_true rfl) ?_
  refine v_blk bX3_init_4 [.ref 29, .int (3072 : Int32)] [.int (769 : Int32), .ref 29] hz90 [] rfl (sm_on) ?_
  refine v_newi (t := 101) (i0 := 1) (N := 769) 0 0 dX3_init_22 rfl wA_long (by decide) (by decide) (by decide) (fun _ _ h => h) (by decide) (fun ba cA => sm_enz_l cA) ?_
  show sm_V _ _ _ _ _ _ 24 [.ref 29, .int (3072 : Int32)] [.ref 30, .ref 29] hz91 _ _
  refine v_blk bX3_init_24 [.ref 29, .int (3072 : Int32)] [] hz92 [] rfl (sm_on) ?_
  exact v_retv dX3_init_27 rfl
set_option maxRecDepth 20000 in
theorem nX4_init_26 {l : Launch} : sm_Rt l mX4_init 2 4 791 true true [.ref 26] hz84 (none, hz93) := by
  refine sm_Rt.ofV (L := [.ref 26]) (by decide) (Nat.le_of_ble_eq_true rfl) rfl ?_
  refine v_blk bX4_init_0 [.ref 26] [.ref 26] hz84 [] rfl (sm_on) ?_
  refine v_obj dX4_init_1 (by decide) wmX4_3 wiObj wcObj (Nat.le_of_ble_eq_true rfl) ?_
  refine v_blk bX4_init_4 [.ref 26] [.int (10 : Int32), .ref 26] hz84 [] rfl (sm_on) ?_
  refine v_newi (t := 100) (i0 := 0) (N := 10) 3 781 dX4_init_7 rfl wA_int (by decide) (by decide) (by decide) (fun _ _ h => h) (by decide) (fun ba cA => sm_enz_i rfl rfl rfl rfl cA) ?_
  show sm_V _ _ _ _ _ _ 9 [.ref 26] [.ref 27, .ref 26] hz85 _ _
  refine v_blk bX4_init_9 [.ref 26] [.int (10 : Int32), .ref 26] hz86 [] rfl (sm_on) ?_
  refine v_newi (t := 100) (i0 := 0) (N := 10) 2 771 dX4_init_15 rfl wA_int (by decide) (by decide) (by decide) (fun _ _ h => h) (by decide) (fun ba cA => sm_enz_i rfl rfl rfl rfl cA) ?_
  show sm_V _ _ _ _ _ _ 17 [.ref 26] [.ref 28, .ref 26] hz87 _ _
  refine v_blk bX4_init_17 [.ref 26] [.ref 26] hz88 [] rfl (sm_on) ?_
  refine v_new 1 769 kX3 dX4_init_21 wCX4_18 wN3 wIX3 zX3 ?_
  show sm_V _ _ _ _ _ _ 24 [.ref 26] [.ref 29, .ref 26] hz89 _ _
  refine v_blk bX4_init_24 [.ref 26] [.int (3072 : Int32), .ref 29, .ref 29, .ref 26] hz89 [] rfl (sm_on) ?_
  refine v_callI [.int (3072 : Int32)] [.ref 29, .ref 26] 0 0 nX3_init_29 (ciX4_20 rfl) dX4_init_28 rfl rfl (by decide) (by decide) (Nat.le_of_ble_eq_true rfl) ?_
  show sm_V _ _ _ _ _ _ 31 [.ref 26] [.ref 29, .ref 26] hz92 _ _
  refine v_blk bX4_init_31 [.ref 26] [] hz93 [] rfl (sm_on) ?_
  exact v_retv dX4_init_34 rfl
set_option maxRecDepth 20000 in
theorem nX3_init_32 {l : Launch} : sm_Rt l mX3_init 1 1 4097 true true [.ref 32, .int (16384 : Int32)] hz96 (none, hz99) := by
  refine sm_Rt.ofV (L := [.ref 32, .int (16384 : Int32)]) (by decide) (Nat.le_of_ble_eq_true rfl) rfl ?_
  refine v_blk bX3_init_0 [.ref 32, .int (16384 : Int32)] [.ref 32] hz96 [] rfl (sm_on) ?_
  refine v_obj dX3_init_1 (by decide) wmX3_3 wiObj wcObj (Nat.le_of_ble_eq_true rfl) ?_
  refine v_blk bX3_init_4 [.ref 32, .int (16384 : Int32)] [.int (4097 : Int32), .ref 32] hz97 [] rfl (sm_on) ?_
  refine v_newi (t := 101) (i0 := 1) (N := 4097) 0 0 dX3_init_22 rfl wA_long (by decide) (by decide) (by decide) (fun _ _ h => h) (by decide) (fun ba cA => sm_enz_l cA) ?_
  show sm_V _ _ _ _ _ _ 24 [.ref 32, .int (16384 : Int32)] [.ref 33, .ref 32] hz98 _ _
  refine v_blk bX3_init_24 [.ref 32, .int (16384 : Int32)] [] hz99 [] rfl (sm_on) ?_
  exact v_retv dX3_init_27 rfl
set_option maxRecDepth 20000 in
theorem nX10_init_31 {l : Launch} : sm_Rt l mX10_init 2 2 4099 true true [.ref 31] hz95 (none, hz100) := by
  refine sm_Rt.ofV (L := [.ref 31]) (by decide) (Nat.le_of_ble_eq_true rfl) rfl ?_
  refine v_blk bX10_init_0 [.ref 31] [.ref 31] hz95 [] rfl (sm_on) ?_
  refine v_obj dX10_init_1 (by decide) wmX10_3 wiObj wcObj (Nat.le_of_ble_eq_true rfl) ?_
  refine v_blk bX10_init_4 [.ref 31] [.ref 31] hz95 [] rfl (sm_on) ?_
  refine v_new 1 4097 kX3 dX10_init_5 wCX10_9 wN3 wIX3 zX3 ?_
  show sm_V _ _ _ _ _ _ 8 [.ref 31] [.ref 32, .ref 31] hz96 _ _
  refine v_blk bX10_init_8 [.ref 31] [.int (16384 : Int32), .ref 32, .ref 32, .ref 31] hz96 [] rfl (sm_on) ?_
  refine v_callI [.int (16384 : Int32)] [.ref 32, .ref 31] 0 0 nX3_init_32 (ciX10_11 rfl) dX10_init_12 rfl rfl (by decide) (by decide) (Nat.le_of_ble_eq_true rfl) ?_
  show sm_V _ _ _ _ _ _ 15 [.ref 31] [.ref 32, .ref 31] hz99 _ _
  refine v_blk bX10_init_15 [.ref 31] [] hz100 [] rfl (sm_on) ?_
  exact v_retv dX10_init_23 rfl
set_option maxRecDepth 20000 in
theorem nX3_init_49 {l : Launch} : sm_Rt l mX3_init 1 1 4097 true true [.ref 49, .int (16384 : Int32)] hz122 (none, hz125) := by
  refine sm_Rt.ofV (L := [.ref 49, .int (16384 : Int32)]) (by decide) (Nat.le_of_ble_eq_true rfl) rfl ?_
  refine v_blk bX3_init_0 [.ref 49, .int (16384 : Int32)] [.ref 49] hz122 [] rfl (sm_on) ?_
  refine v_obj dX3_init_1 (by decide) wmX3_3 wiObj wcObj (Nat.le_of_ble_eq_true rfl) ?_
  refine v_blk bX3_init_4 [.ref 49, .int (16384 : Int32)] [.int (4097 : Int32), .ref 49] hz123 [] rfl (sm_on) ?_
  refine v_newi (t := 101) (i0 := 1) (N := 4097) 0 0 dX3_init_22 rfl wA_long (by decide) (by decide) (by decide) (fun _ _ h => h) (by decide) (fun ba cA => sm_enz_l cA) ?_
  show sm_V _ _ _ _ _ _ 24 [.ref 49, .int (16384 : Int32)] [.ref 50, .ref 49] hz124 _ _
  refine v_blk bX3_init_24 [.ref 49, .int (16384 : Int32)] [] hz125 [] rfl (sm_on) ?_
  exact v_retv dX3_init_27 rfl
set_option maxRecDepth 20000 in
theorem nX1_init_34 {l : Launch} : sm_Rt l mX1_init 2 16 4243 true true [.ref 34] hz102 (none, hz126) := by
  refine sm_Rt.ofV (L := [.ref 34]) (by decide) (Nat.le_of_ble_eq_true rfl) rfl ?_
  refine v_blk bX1_init_0 [.ref 34] [.ref 34] hz102 [] rfl (sm_on) ?_
  refine v_obj dX1_init_1 (by decide) wmX1_3 wiObj wcObj (Nat.le_of_ble_eq_true rfl) ?_
  refine v_blk bX1_init_4 [.ref 34] [.int (14 : Int32), .ref 34] hz102 [] rfl (sm_on) ?_
  refine v_newi (t := 100) (i0 := 0) (N := 14) 15 4229 dX1_init_7 rfl wA_int (by decide) (by decide) (by decide) (fun _ _ h => h) (by decide) (fun ba cA => sm_enz_i rfl rfl rfl rfl cA) ?_
  show sm_V _ _ _ _ _ _ 9 [.ref 34] [.ref 35, .ref 34] hz103 _ _
  refine v_blk bX1_init_9 [.ref 34] [.int (10 : Int32), .ref 34] hz104 [] rfl (sm_on) ?_
  refine v_newi (t := 100) (i0 := 0) (N := 10) 14 4219 dX1_init_25 rfl wA_int (by decide) (by decide) (by decide) (fun _ _ h => h) (by decide) (fun ba cA => sm_enz_i rfl rfl rfl rfl cA) ?_
  show sm_V _ _ _ _ _ _ 27 [.ref 34] [.ref 36, .ref 34] hz105 _ _
  refine v_blk bX1_init_27 [.ref 34] [.int (10 : Int32), .ref 34] hz106 [] rfl (sm_on) ?_
  refine v_newi (t := 100) (i0 := 0) (N := 10) 13 4209 dX1_init_33 rfl wA_int (by decide) (by decide) (by decide) (fun _ _ h => h) (by decide) (fun ba cA => sm_enz_i rfl rfl rfl rfl cA) ?_
  show sm_V _ _ _ _ _ _ 35 [.ref 34] [.ref 37, .ref 34] hz107 _ _
  refine v_blk bX1_init_35 [.ref 34] [.int (10 : Int32), .int (10 : Int32), .ref 34] hz108 [] rfl (sm_on) ?_
  refine v_multi 2 4099 dX1_init_43 wCX1_28 wA_int ?_
  show sm_V _ _ _ _ _ _ 47 [.ref 34] [.ref 38, .ref 34] hz120 _ _
  refine v_blk bX1_init_47 [.ref 34] [.ref 34] hz121 [] rfl (sm_on) ?_
  refine v_new 1 4097 kX3 dX1_init_51 wCX1_33 wN3 wIX3 zX3 ?_
  show sm_V _ _ _ _ _ _ 54 [.ref 34] [.ref 49, .ref 34] hz122 _ _
  refine v_blk bX1_init_54 [.ref 34] [.int (16384 : Int32), .ref 49, .ref 49, .ref 34] hz122 [] rfl (sm_on) ?_
  refine v_callI [.int (16384 : Int32)] [.ref 49, .ref 34] 0 0 nX3_init_49 (ciX1_35 rfl) dX1_init_58 rfl rfl (by decide) (by decide) (Nat.le_of_ble_eq_true rfl) ?_
  show sm_V _ _ _ _ _ _ 61 [.ref 34] [.ref 49, .ref 34] hz125 _ _
  refine v_blk bX1_init_61 [.ref 34] [] hz126 [] rfl (sm_on) ?_
  exact v_retv dX1_init_64 rfl
set_option maxRecDepth 20000 in
theorem nX0_init_51 {l : Launch} : sm_Rt l mX0_init 1 4 95 true true [.ref 51] hz128 (none, hz137) := by
  refine sm_Rt.ofV (L := [.ref 51]) (by decide) (Nat.le_of_ble_eq_true rfl) rfl ?_
  refine v_blk bX0_init_0 [.ref 51] [.ref 51] hz128 [] rfl (sm_on) ?_
  refine v_obj dX0_init_1 (by decide) wmX0_3 wiObj wcObj (Nat.le_of_ble_eq_true rfl) ?_
  refine v_blk bX0_init_4 [.ref 51] [.int (64 : Int32), .ref 51] hz129 [] rfl (sm_on) ?_
  refine v_newi (t := 101) (i0 := 1) (N := 64) 3 31 dX0_init_17 rfl wA_long (by decide) (by decide) (by decide) (fun _ _ h => h) (by decide) (fun ba cA => sm_enz_l cA) ?_
  show sm_V _ _ _ _ _ _ 19 [.ref 51] [.ref 52, .ref 51] hz130 _ _
  refine v_blk bX0_init_19 [.ref 51] [.int (12 : Int32), .ref 51] hz131 [] rfl (sm_on) ?_
  refine v_newi (t := 100) (i0 := 0) (N := 12) 2 19 dX0_init_25 rfl wA_int (by decide) (by decide) (by decide) (fun _ _ h => h) (by decide) (fun ba cA => sm_enz_i rfl rfl rfl rfl cA) ?_
  show sm_V _ _ _ _ _ _ 27 [.ref 51] [.ref 53, .ref 51] hz132 _ _
  refine v_blk bX0_init_27 [.ref 51] [.int (12 : Int32), .ref 51] hz133 [] rfl (sm_on) ?_
  refine v_newi (t := 100) (i0 := 0) (N := 12) 1 7 dX0_init_33 rfl wA_int (by decide) (by decide) (by decide) (fun _ _ h => h) (by decide) (fun ba cA => sm_enz_i rfl rfl rfl rfl cA) ?_
  show sm_V _ _ _ _ _ _ 35 [.ref 51] [.ref 54, .ref 51] hz134 _ _
  refine v_blk bX0_init_35 [.ref 51] [.int (7 : Int32), .ref 51] hz135 [] rfl (sm_on) ?_
  refine v_newi (t := 100) (i0 := 0) (N := 7) 0 0 dX0_init_41 rfl wA_int (by decide) (by decide) (by decide) (fun _ _ h => h) (by decide) (fun ba cA => sm_enz_i rfl rfl rfl rfl cA) ?_
  show sm_V _ _ _ _ _ _ 43 [.ref 51] [.ref 55, .ref 51] hz136 _ _
  refine v_blk bX0_init_43 [.ref 51] [] hz137 [] rfl (sm_on) ?_
  exact v_retv dX0_init_46 rfl
set_option maxRecDepth 20000 in
theorem nX9_init_58 {l : Launch} : sm_Rt l mX9_init 1 3 90 true true [.ref 58] hz143 (none, hz150) := by
  refine sm_Rt.ofV (L := [.ref 58]) (by decide) (Nat.le_of_ble_eq_true rfl) rfl ?_
  refine v_blk bX9_init_0 [.ref 58] [.ref 58] hz143 [] rfl (sm_on) ?_
  refine v_obj dX9_init_1 (by decide) wmX9_3 wiObj wcObj (Nat.le_of_ble_eq_true rfl) ?_
  refine v_blk bX9_init_4 [.ref 58] [.int (30 : Int32), .ref 58] hz144 [] rfl (sm_on) ?_
  refine v_newi (t := 100) (i0 := 0) (N := 30) 2 60 dX9_init_22 rfl wA_int (by decide) (by decide) (by decide) (fun _ _ h => h) (by decide) (fun ba cA => sm_enz_i rfl rfl rfl rfl cA) ?_
  show sm_V _ _ _ _ _ _ 24 [.ref 58] [.ref 59, .ref 58] hz145 _ _
  refine v_blk bX9_init_24 [.ref 58] [.int (30 : Int32), .ref 58] hz146 [] rfl (sm_on) ?_
  refine v_newi (t := 100) (i0 := 0) (N := 30) 1 30 dX9_init_30 rfl wA_int (by decide) (by decide) (by decide) (fun _ _ h => h) (by decide) (fun ba cA => sm_enz_i rfl rfl rfl rfl cA) ?_
  show sm_V _ _ _ _ _ _ 32 [.ref 58] [.ref 60, .ref 58] hz147 _ _
  refine v_blk bX9_init_32 [.ref 58] [.int (30 : Int32), .ref 58] hz148 [] rfl (sm_on) ?_
  refine v_newi (t := 100) (i0 := 0) (N := 30) 0 0 dX9_init_38 rfl wA_int (by decide) (by decide) (by decide) (fun _ _ h => h) (by decide) (fun ba cA => sm_enz_i rfl rfl rfl rfl cA) ?_
  show sm_V _ _ _ _ _ _ 40 [.ref 58] [.ref 61, .ref 58] hz149 _ _
  refine v_blk bX9_init_40 [.ref 58] [] hz150 [] rfl (sm_on) ?_
  exact v_retv dX9_init_43 rfl
set_option maxRecDepth 20000 in
theorem nX9_init_62 {l : Launch} : sm_Rt l mX9_init 1 3 90 true true [.ref 62] hz152 (none, hz159) := by
  refine sm_Rt.ofV (L := [.ref 62]) (by decide) (Nat.le_of_ble_eq_true rfl) rfl ?_
  refine v_blk bX9_init_0 [.ref 62] [.ref 62] hz152 [] rfl (sm_on) ?_
  refine v_obj dX9_init_1 (by decide) wmX9_3 wiObj wcObj (Nat.le_of_ble_eq_true rfl) ?_
  refine v_blk bX9_init_4 [.ref 62] [.int (30 : Int32), .ref 62] hz153 [] rfl (sm_on) ?_
  refine v_newi (t := 100) (i0 := 0) (N := 30) 2 60 dX9_init_22 rfl wA_int (by decide) (by decide) (by decide) (fun _ _ h => h) (by decide) (fun ba cA => sm_enz_i rfl rfl rfl rfl cA) ?_
  show sm_V _ _ _ _ _ _ 24 [.ref 62] [.ref 63, .ref 62] hz154 _ _
  refine v_blk bX9_init_24 [.ref 62] [.int (30 : Int32), .ref 62] hz155 [] rfl (sm_on) ?_
  refine v_newi (t := 100) (i0 := 0) (N := 30) 1 30 dX9_init_30 rfl wA_int (by decide) (by decide) (by decide) (fun _ _ h => h) (by decide) (fun ba cA => sm_enz_i rfl rfl rfl rfl cA) ?_
  show sm_V _ _ _ _ _ _ 32 [.ref 62] [.ref 64, .ref 62] hz156 _ _
  refine v_blk bX9_init_32 [.ref 62] [.int (30 : Int32), .ref 62] hz157 [] rfl (sm_on) ?_
  refine v_newi (t := 100) (i0 := 0) (N := 30) 0 0 dX9_init_38 rfl wA_int (by decide) (by decide) (by decide) (fun _ _ h => h) (by decide) (fun ba cA => sm_enz_i rfl rfl rfl rfl cA) ?_
  show sm_V _ _ _ _ _ _ 40 [.ref 62] [.ref 65, .ref 62] hz158 _ _
  refine v_blk bX9_init_40 [.ref 62] [] hz159 [] rfl (sm_on) ?_
  exact v_retv dX9_init_43 rfl
set_option maxRecDepth 20000 in
theorem nX6_init_66 {l : Launch} : sm_Rt l mX6_init 1 1 14 true true [.ref 66] hz161 (none, hz178) := by
  refine sm_Rt.ofV (L := [.ref 66, .retAddr 0]) (by decide) (Nat.le_of_ble_eq_true rfl) rfl ?_
  refine v_blk bX6_init_0 [.ref 66, .retAddr 0] [.ref 66] hz161 [] rfl (sm_on) ?_
  refine v_obj dX6_init_1 (by decide) wmX6_3 wiObj wcObj (Nat.le_of_ble_eq_true rfl) ?_
  refine v_blk bX6_init_4 [.ref 66, .retAddr 0] [.int (14 : Int32), .ref 66] hz162 [] rfl (sm_on) ?_
  refine v_newi (t := 100) (i0 := 0) (N := 14) 0 0 dX6_init_17 rfl wA_int (by decide) (by decide) (by decide) (fun _ _ h => h) (by decide) (fun ba cA => sm_enz_i rfl rfl rfl rfl cA) ?_
  show sm_V _ _ _ _ _ _ 19 [.ref 66, .retAddr 0] [.ref 67, .ref 66] hz163 _ _
  refine v_blk bX6_init_19 [.ref 66, .int (0 : Int32)] [] hz164 [] rfl (sm_on) ?_
  refine v_blk bX6_init_24 [.ref 66, .int (0 : Int32)] [.int (14 : Int32), .int (0 : Int32)] hz164 [] rfl (sm_on) ?_
  refine v_icmp_ge (tgt := 43) dX6_init_27 rfl (fun hc => absurd hc (by decide)) (fun _ => ?_)
  refine v_blk bX6_init_30 [.ref 66, .int (1 : Int32)] [] hz165 [((0 : Int32), 14)] rfl (sm_oc (by decide) (sm_on)) ?_
  refine v_goto (tgt := 24) dX6_init_40 rfl ?_
  refine v_blk bX6_init_24 [.ref 66, .int (1 : Int32)] [.int (14 : Int32), .int (1 : Int32)] hz165 [] rfl (sm_on) ?_
  refine v_icmp_ge (tgt := 43) dX6_init_27 rfl (fun hc => absurd hc (by decide)) (fun _ => ?_)
  refine v_blk bX6_init_30 [.ref 66, .int (2 : Int32)] [] hz166 [((1 : Int32), 14)] rfl (sm_oc (by decide) (sm_on)) ?_
  refine v_goto (tgt := 24) dX6_init_40 rfl ?_
  refine v_blk bX6_init_24 [.ref 66, .int (2 : Int32)] [.int (14 : Int32), .int (2 : Int32)] hz166 [] rfl (sm_on) ?_
  refine v_icmp_ge (tgt := 43) dX6_init_27 rfl (fun hc => absurd hc (by decide)) (fun _ => ?_)
  refine v_blk bX6_init_30 [.ref 66, .int (3 : Int32)] [] hz167 [((2 : Int32), 14)] rfl (sm_oc (by decide) (sm_on)) ?_
  refine v_goto (tgt := 24) dX6_init_40 rfl ?_
  refine v_blk bX6_init_24 [.ref 66, .int (3 : Int32)] [.int (14 : Int32), .int (3 : Int32)] hz167 [] rfl (sm_on) ?_
  refine v_icmp_ge (tgt := 43) dX6_init_27 rfl (fun hc => absurd hc (by decide)) (fun _ => ?_)
  refine v_blk bX6_init_30 [.ref 66, .int (4 : Int32)] [] hz168 [((3 : Int32), 14)] rfl (sm_oc (by decide) (sm_on)) ?_
  refine v_goto (tgt := 24) dX6_init_40 rfl ?_
  refine v_blk bX6_init_24 [.ref 66, .int (4 : Int32)] [.int (14 : Int32), .int (4 : Int32)] hz168 [] rfl (sm_on) ?_
  refine v_icmp_ge (tgt := 43) dX6_init_27 rfl (fun hc => absurd hc (by decide)) (fun _ => ?_)
  refine v_blk bX6_init_30 [.ref 66, .int (5 : Int32)] [] hz169 [((4 : Int32), 14)] rfl (sm_oc (by decide) (sm_on)) ?_
  refine v_goto (tgt := 24) dX6_init_40 rfl ?_
  refine v_blk bX6_init_24 [.ref 66, .int (5 : Int32)] [.int (14 : Int32), .int (5 : Int32)] hz169 [] rfl (sm_on) ?_
  refine v_icmp_ge (tgt := 43) dX6_init_27 rfl (fun hc => absurd hc (by decide)) (fun _ => ?_)
  refine v_blk bX6_init_30 [.ref 66, .int (6 : Int32)] [] hz170 [((5 : Int32), 14)] rfl (sm_oc (by decide) (sm_on)) ?_
  refine v_goto (tgt := 24) dX6_init_40 rfl ?_
  refine v_blk bX6_init_24 [.ref 66, .int (6 : Int32)] [.int (14 : Int32), .int (6 : Int32)] hz170 [] rfl (sm_on) ?_
  refine v_icmp_ge (tgt := 43) dX6_init_27 rfl (fun hc => absurd hc (by decide)) (fun _ => ?_)
  refine v_blk bX6_init_30 [.ref 66, .int (7 : Int32)] [] hz171 [((6 : Int32), 14)] rfl (sm_oc (by decide) (sm_on)) ?_
  refine v_goto (tgt := 24) dX6_init_40 rfl ?_
  refine v_blk bX6_init_24 [.ref 66, .int (7 : Int32)] [.int (14 : Int32), .int (7 : Int32)] hz171 [] rfl (sm_on) ?_
  refine v_icmp_ge (tgt := 43) dX6_init_27 rfl (fun hc => absurd hc (by decide)) (fun _ => ?_)
  refine v_blk bX6_init_30 [.ref 66, .int (8 : Int32)] [] hz172 [((7 : Int32), 14)] rfl (sm_oc (by decide) (sm_on)) ?_
  refine v_goto (tgt := 24) dX6_init_40 rfl ?_
  refine v_blk bX6_init_24 [.ref 66, .int (8 : Int32)] [.int (14 : Int32), .int (8 : Int32)] hz172 [] rfl (sm_on) ?_
  refine v_icmp_ge (tgt := 43) dX6_init_27 rfl (fun hc => absurd hc (by decide)) (fun _ => ?_)
  refine v_blk bX6_init_30 [.ref 66, .int (9 : Int32)] [] hz173 [((8 : Int32), 14)] rfl (sm_oc (by decide) (sm_on)) ?_
  refine v_goto (tgt := 24) dX6_init_40 rfl ?_
  refine v_blk bX6_init_24 [.ref 66, .int (9 : Int32)] [.int (14 : Int32), .int (9 : Int32)] hz173 [] rfl (sm_on) ?_
  refine v_icmp_ge (tgt := 43) dX6_init_27 rfl (fun hc => absurd hc (by decide)) (fun _ => ?_)
  refine v_blk bX6_init_30 [.ref 66, .int (10 : Int32)] [] hz174 [((9 : Int32), 14)] rfl (sm_oc (by decide) (sm_on)) ?_
  refine v_goto (tgt := 24) dX6_init_40 rfl ?_
  refine v_blk bX6_init_24 [.ref 66, .int (10 : Int32)] [.int (14 : Int32), .int (10 : Int32)] hz174 [] rfl (sm_on) ?_
  refine v_icmp_ge (tgt := 43) dX6_init_27 rfl (fun hc => absurd hc (by decide)) (fun _ => ?_)
  refine v_blk bX6_init_30 [.ref 66, .int (11 : Int32)] [] hz175 [((10 : Int32), 14)] rfl (sm_oc (by decide) (sm_on)) ?_
  refine v_goto (tgt := 24) dX6_init_40 rfl ?_
  refine v_blk bX6_init_24 [.ref 66, .int (11 : Int32)] [.int (14 : Int32), .int (11 : Int32)] hz175 [] rfl (sm_on) ?_
  refine v_icmp_ge (tgt := 43) dX6_init_27 rfl (fun hc => absurd hc (by decide)) (fun _ => ?_)
  refine v_blk bX6_init_30 [.ref 66, .int (12 : Int32)] [] hz176 [((11 : Int32), 14)] rfl (sm_oc (by decide) (sm_on)) ?_
  refine v_goto (tgt := 24) dX6_init_40 rfl ?_
  refine v_blk bX6_init_24 [.ref 66, .int (12 : Int32)] [.int (14 : Int32), .int (12 : Int32)] hz176 [] rfl (sm_on) ?_
  refine v_icmp_ge (tgt := 43) dX6_init_27 rfl (fun hc => absurd hc (by decide)) (fun _ => ?_)
  refine v_blk bX6_init_30 [.ref 66, .int (13 : Int32)] [] hz177 [((12 : Int32), 14)] rfl (sm_oc (by decide) (sm_on)) ?_
  refine v_goto (tgt := 24) dX6_init_40 rfl ?_
  refine v_blk bX6_init_24 [.ref 66, .int (13 : Int32)] [.int (14 : Int32), .int (13 : Int32)] hz177 [] rfl (sm_on) ?_
  refine v_icmp_ge (tgt := 43) dX6_init_27 rfl (fun hc => absurd hc (by decide)) (fun _ => ?_)
  refine v_blk bX6_init_30 [.ref 66, .int (14 : Int32)] [] hz178 [((13 : Int32), 14)] rfl (sm_oc (by decide) (sm_on)) ?_
  refine v_goto (tgt := 24) dX6_init_40 rfl ?_
  refine v_blk bX6_init_24 [.ref 66, .int (14 : Int32)] [.int (14 : Int32), .int (14 : Int32)] hz178 [] rfl (sm_on) ?_
  refine v_icmp_ge (tgt := 43) dX6_init_27 rfl (fun _ => ?_) (fun hc => absurd hc (by decide))
  exact v_retv dX6_init_43 rfl
set_option maxRecDepth 20000 in
theorem nX6_init_68 {l : Launch} : sm_Rt l mX6_init 1 1 14 true true [.ref 68] hz180 (none, hz197) := by
  refine sm_Rt.ofV (L := [.ref 68, .retAddr 0]) (by decide) (Nat.le_of_ble_eq_true rfl) rfl ?_
  refine v_blk bX6_init_0 [.ref 68, .retAddr 0] [.ref 68] hz180 [] rfl (sm_on) ?_
  refine v_obj dX6_init_1 (by decide) wmX6_3 wiObj wcObj (Nat.le_of_ble_eq_true rfl) ?_
  refine v_blk bX6_init_4 [.ref 68, .retAddr 0] [.int (14 : Int32), .ref 68] hz181 [] rfl (sm_on) ?_
  refine v_newi (t := 100) (i0 := 0) (N := 14) 0 0 dX6_init_17 rfl wA_int (by decide) (by decide) (by decide) (fun _ _ h => h) (by decide) (fun ba cA => sm_enz_i rfl rfl rfl rfl cA) ?_
  show sm_V _ _ _ _ _ _ 19 [.ref 68, .retAddr 0] [.ref 69, .ref 68] hz182 _ _
  refine v_blk bX6_init_19 [.ref 68, .int (0 : Int32)] [] hz183 [] rfl (sm_on) ?_
  refine v_blk bX6_init_24 [.ref 68, .int (0 : Int32)] [.int (14 : Int32), .int (0 : Int32)] hz183 [] rfl (sm_on) ?_
  refine v_icmp_ge (tgt := 43) dX6_init_27 rfl (fun hc => absurd hc (by decide)) (fun _ => ?_)
  refine v_blk bX6_init_30 [.ref 68, .int (1 : Int32)] [] hz184 [((0 : Int32), 14)] rfl (sm_oc (by decide) (sm_on)) ?_
  refine v_goto (tgt := 24) dX6_init_40 rfl ?_
  refine v_blk bX6_init_24 [.ref 68, .int (1 : Int32)] [.int (14 : Int32), .int (1 : Int32)] hz184 [] rfl (sm_on) ?_
  refine v_icmp_ge (tgt := 43) dX6_init_27 rfl (fun hc => absurd hc (by decide)) (fun _ => ?_)
  refine v_blk bX6_init_30 [.ref 68, .int (2 : Int32)] [] hz185 [((1 : Int32), 14)] rfl (sm_oc (by decide) (sm_on)) ?_
  refine v_goto (tgt := 24) dX6_init_40 rfl ?_
  refine v_blk bX6_init_24 [.ref 68, .int (2 : Int32)] [.int (14 : Int32), .int (2 : Int32)] hz185 [] rfl (sm_on) ?_
  refine v_icmp_ge (tgt := 43) dX6_init_27 rfl (fun hc => absurd hc (by decide)) (fun _ => ?_)
  refine v_blk bX6_init_30 [.ref 68, .int (3 : Int32)] [] hz186 [((2 : Int32), 14)] rfl (sm_oc (by decide) (sm_on)) ?_
  refine v_goto (tgt := 24) dX6_init_40 rfl ?_
  refine v_blk bX6_init_24 [.ref 68, .int (3 : Int32)] [.int (14 : Int32), .int (3 : Int32)] hz186 [] rfl (sm_on) ?_
  refine v_icmp_ge (tgt := 43) dX6_init_27 rfl (fun hc => absurd hc (by decide)) (fun _ => ?_)
  refine v_blk bX6_init_30 [.ref 68, .int (4 : Int32)] [] hz187 [((3 : Int32), 14)] rfl (sm_oc (by decide) (sm_on)) ?_
  refine v_goto (tgt := 24) dX6_init_40 rfl ?_
  refine v_blk bX6_init_24 [.ref 68, .int (4 : Int32)] [.int (14 : Int32), .int (4 : Int32)] hz187 [] rfl (sm_on) ?_
  refine v_icmp_ge (tgt := 43) dX6_init_27 rfl (fun hc => absurd hc (by decide)) (fun _ => ?_)
  refine v_blk bX6_init_30 [.ref 68, .int (5 : Int32)] [] hz188 [((4 : Int32), 14)] rfl (sm_oc (by decide) (sm_on)) ?_
  refine v_goto (tgt := 24) dX6_init_40 rfl ?_
  refine v_blk bX6_init_24 [.ref 68, .int (5 : Int32)] [.int (14 : Int32), .int (5 : Int32)] hz188 [] rfl (sm_on) ?_
  refine v_icmp_ge (tgt := 43) dX6_init_27 rfl (fun hc => absurd hc (by decide)) (fun _ => ?_)
  refine v_blk bX6_init_30 [.ref 68, .int (6 : Int32)] [] hz189 [((5 : Int32), 14)] rfl (sm_oc (by decide) (sm_on)) ?_
  refine v_goto (tgt := 24) dX6_init_40 rfl ?_
  refine v_blk bX6_init_24 [.ref 68, .int (6 : Int32)] [.int (14 : Int32), .int (6 : Int32)] hz189 [] rfl (sm_on) ?_
  refine v_icmp_ge (tgt := 43) dX6_init_27 rfl (fun hc => absurd hc (by decide)) (fun _ => ?_)
  refine v_blk bX6_init_30 [.ref 68, .int (7 : Int32)] [] hz190 [((6 : Int32), 14)] rfl (sm_oc (by decide) (sm_on)) ?_
  refine v_goto (tgt := 24) dX6_init_40 rfl ?_
  refine v_blk bX6_init_24 [.ref 68, .int (7 : Int32)] [.int (14 : Int32), .int (7 : Int32)] hz190 [] rfl (sm_on) ?_
  refine v_icmp_ge (tgt := 43) dX6_init_27 rfl (fun hc => absurd hc (by decide)) (fun _ => ?_)
  refine v_blk bX6_init_30 [.ref 68, .int (8 : Int32)] [] hz191 [((7 : Int32), 14)] rfl (sm_oc (by decide) (sm_on)) ?_
  refine v_goto (tgt := 24) dX6_init_40 rfl ?_
  refine v_blk bX6_init_24 [.ref 68, .int (8 : Int32)] [.int (14 : Int32), .int (8 : Int32)] hz191 [] rfl (sm_on) ?_
  refine v_icmp_ge (tgt := 43) dX6_init_27 rfl (fun hc => absurd hc (by decide)) (fun _ => ?_)
  refine v_blk bX6_init_30 [.ref 68, .int (9 : Int32)] [] hz192 [((8 : Int32), 14)] rfl (sm_oc (by decide) (sm_on)) ?_
  refine v_goto (tgt := 24) dX6_init_40 rfl ?_
  refine v_blk bX6_init_24 [.ref 68, .int (9 : Int32)] [.int (14 : Int32), .int (9 : Int32)] hz192 [] rfl (sm_on) ?_
  refine v_icmp_ge (tgt := 43) dX6_init_27 rfl (fun hc => absurd hc (by decide)) (fun _ => ?_)
  refine v_blk bX6_init_30 [.ref 68, .int (10 : Int32)] [] hz193 [((9 : Int32), 14)] rfl (sm_oc (by decide) (sm_on)) ?_
  refine v_goto (tgt := 24) dX6_init_40 rfl ?_
  refine v_blk bX6_init_24 [.ref 68, .int (10 : Int32)] [.int (14 : Int32), .int (10 : Int32)] hz193 [] rfl (sm_on) ?_
  refine v_icmp_ge (tgt := 43) dX6_init_27 rfl (fun hc => absurd hc (by decide)) (fun _ => ?_)
  refine v_blk bX6_init_30 [.ref 68, .int (11 : Int32)] [] hz194 [((10 : Int32), 14)] rfl (sm_oc (by decide) (sm_on)) ?_
  refine v_goto (tgt := 24) dX6_init_40 rfl ?_
  refine v_blk bX6_init_24 [.ref 68, .int (11 : Int32)] [.int (14 : Int32), .int (11 : Int32)] hz194 [] rfl (sm_on) ?_
  refine v_icmp_ge (tgt := 43) dX6_init_27 rfl (fun hc => absurd hc (by decide)) (fun _ => ?_)
  refine v_blk bX6_init_30 [.ref 68, .int (12 : Int32)] [] hz195 [((11 : Int32), 14)] rfl (sm_oc (by decide) (sm_on)) ?_
  refine v_goto (tgt := 24) dX6_init_40 rfl ?_
  refine v_blk bX6_init_24 [.ref 68, .int (12 : Int32)] [.int (14 : Int32), .int (12 : Int32)] hz195 [] rfl (sm_on) ?_
  refine v_icmp_ge (tgt := 43) dX6_init_27 rfl (fun hc => absurd hc (by decide)) (fun _ => ?_)
  refine v_blk bX6_init_30 [.ref 68, .int (13 : Int32)] [] hz196 [((12 : Int32), 14)] rfl (sm_oc (by decide) (sm_on)) ?_
  refine v_goto (tgt := 24) dX6_init_40 rfl ?_
  refine v_blk bX6_init_24 [.ref 68, .int (13 : Int32)] [.int (14 : Int32), .int (13 : Int32)] hz196 [] rfl (sm_on) ?_
  refine v_icmp_ge (tgt := 43) dX6_init_27 rfl (fun hc => absurd hc (by decide)) (fun _ => ?_)
  refine v_blk bX6_init_30 [.ref 68, .int (14 : Int32)] [] hz197 [((13 : Int32), 14)] rfl (sm_oc (by decide) (sm_on)) ?_
  refine v_goto (tgt := 24) dX6_init_40 rfl ?_
  refine v_blk bX6_init_24 [.ref 68, .int (14 : Int32)] [.int (14 : Int32), .int (14 : Int32)] hz197 [] rfl (sm_on) ?_
  refine v_icmp_ge (tgt := 43) dX6_init_27 rfl (fun _ => ?_) (fun hc => absurd hc (by decide))
  exact v_retv dX6_init_43 rfl
set_option maxRecDepth 20000 in
theorem nX6_init_70 {l : Launch} : sm_Rt l mX6_init 1 1 14 true true [.ref 70] hz199 (none, hz216) := by
  refine sm_Rt.ofV (L := [.ref 70, .retAddr 0]) (by decide) (Nat.le_of_ble_eq_true rfl) rfl ?_
  refine v_blk bX6_init_0 [.ref 70, .retAddr 0] [.ref 70] hz199 [] rfl (sm_on) ?_
  refine v_obj dX6_init_1 (by decide) wmX6_3 wiObj wcObj (Nat.le_of_ble_eq_true rfl) ?_
  refine v_blk bX6_init_4 [.ref 70, .retAddr 0] [.int (14 : Int32), .ref 70] hz200 [] rfl (sm_on) ?_
  refine v_newi (t := 100) (i0 := 0) (N := 14) 0 0 dX6_init_17 rfl wA_int (by decide) (by decide) (by decide) (fun _ _ h => h) (by decide) (fun ba cA => sm_enz_i rfl rfl rfl rfl cA) ?_
  show sm_V _ _ _ _ _ _ 19 [.ref 70, .retAddr 0] [.ref 71, .ref 70] hz201 _ _
  refine v_blk bX6_init_19 [.ref 70, .int (0 : Int32)] [] hz202 [] rfl (sm_on) ?_
  refine v_blk bX6_init_24 [.ref 70, .int (0 : Int32)] [.int (14 : Int32), .int (0 : Int32)] hz202 [] rfl (sm_on) ?_
  refine v_icmp_ge (tgt := 43) dX6_init_27 rfl (fun hc => absurd hc (by decide)) (fun _ => ?_)
  refine v_blk bX6_init_30 [.ref 70, .int (1 : Int32)] [] hz203 [((0 : Int32), 14)] rfl (sm_oc (by decide) (sm_on)) ?_
  refine v_goto (tgt := 24) dX6_init_40 rfl ?_
  refine v_blk bX6_init_24 [.ref 70, .int (1 : Int32)] [.int (14 : Int32), .int (1 : Int32)] hz203 [] rfl (sm_on) ?_
  refine v_icmp_ge (tgt := 43) dX6_init_27 rfl (fun hc => absurd hc (by decide)) (fun _ => ?_)
  refine v_blk bX6_init_30 [.ref 70, .int (2 : Int32)] [] hz204 [((1 : Int32), 14)] rfl (sm_oc (by decide) (sm_on)) ?_
  refine v_goto (tgt := 24) dX6_init_40 rfl ?_
  refine v_blk bX6_init_24 [.ref 70, .int (2 : Int32)] [.int (14 : Int32), .int (2 : Int32)] hz204 [] rfl (sm_on) ?_
  refine v_icmp_ge (tgt := 43) dX6_init_27 rfl (fun hc => absurd hc (by decide)) (fun _ => ?_)
  refine v_blk bX6_init_30 [.ref 70, .int (3 : Int32)] [] hz205 [((2 : Int32), 14)] rfl (sm_oc (by decide) (sm_on)) ?_
  refine v_goto (tgt := 24) dX6_init_40 rfl ?_
  refine v_blk bX6_init_24 [.ref 70, .int (3 : Int32)] [.int (14 : Int32), .int (3 : Int32)] hz205 [] rfl (sm_on) ?_
  refine v_icmp_ge (tgt := 43) dX6_init_27 rfl (fun hc => absurd hc (by decide)) (fun _ => ?_)
  refine v_blk bX6_init_30 [.ref 70, .int (4 : Int32)] [] hz206 [((3 : Int32), 14)] rfl (sm_oc (by decide) (sm_on)) ?_
  refine v_goto (tgt := 24) dX6_init_40 rfl ?_
  refine v_blk bX6_init_24 [.ref 70, .int (4 : Int32)] [.int (14 : Int32), .int (4 : Int32)] hz206 [] rfl (sm_on) ?_
  refine v_icmp_ge (tgt := 43) dX6_init_27 rfl (fun hc => absurd hc (by decide)) (fun _ => ?_)
  refine v_blk bX6_init_30 [.ref 70, .int (5 : Int32)] [] hz207 [((4 : Int32), 14)] rfl (sm_oc (by decide) (sm_on)) ?_
  refine v_goto (tgt := 24) dX6_init_40 rfl ?_
  refine v_blk bX6_init_24 [.ref 70, .int (5 : Int32)] [.int (14 : Int32), .int (5 : Int32)] hz207 [] rfl (sm_on) ?_
  refine v_icmp_ge (tgt := 43) dX6_init_27 rfl (fun hc => absurd hc (by decide)) (fun _ => ?_)
  refine v_blk bX6_init_30 [.ref 70, .int (6 : Int32)] [] hz208 [((5 : Int32), 14)] rfl (sm_oc (by decide) (sm_on)) ?_
  refine v_goto (tgt := 24) dX6_init_40 rfl ?_
  refine v_blk bX6_init_24 [.ref 70, .int (6 : Int32)] [.int (14 : Int32), .int (6 : Int32)] hz208 [] rfl (sm_on) ?_
  refine v_icmp_ge (tgt := 43) dX6_init_27 rfl (fun hc => absurd hc (by decide)) (fun _ => ?_)
  refine v_blk bX6_init_30 [.ref 70, .int (7 : Int32)] [] hz209 [((6 : Int32), 14)] rfl (sm_oc (by decide) (sm_on)) ?_
  refine v_goto (tgt := 24) dX6_init_40 rfl ?_
  refine v_blk bX6_init_24 [.ref 70, .int (7 : Int32)] [.int (14 : Int32), .int (7 : Int32)] hz209 [] rfl (sm_on) ?_
  refine v_icmp_ge (tgt := 43) dX6_init_27 rfl (fun hc => absurd hc (by decide)) (fun _ => ?_)
  refine v_blk bX6_init_30 [.ref 70, .int (8 : Int32)] [] hz210 [((7 : Int32), 14)] rfl (sm_oc (by decide) (sm_on)) ?_
  refine v_goto (tgt := 24) dX6_init_40 rfl ?_
  refine v_blk bX6_init_24 [.ref 70, .int (8 : Int32)] [.int (14 : Int32), .int (8 : Int32)] hz210 [] rfl (sm_on) ?_
  refine v_icmp_ge (tgt := 43) dX6_init_27 rfl (fun hc => absurd hc (by decide)) (fun _ => ?_)
  refine v_blk bX6_init_30 [.ref 70, .int (9 : Int32)] [] hz211 [((8 : Int32), 14)] rfl (sm_oc (by decide) (sm_on)) ?_
  refine v_goto (tgt := 24) dX6_init_40 rfl ?_
  refine v_blk bX6_init_24 [.ref 70, .int (9 : Int32)] [.int (14 : Int32), .int (9 : Int32)] hz211 [] rfl (sm_on) ?_
  refine v_icmp_ge (tgt := 43) dX6_init_27 rfl (fun hc => absurd hc (by decide)) (fun _ => ?_)
  refine v_blk bX6_init_30 [.ref 70, .int (10 : Int32)] [] hz212 [((9 : Int32), 14)] rfl (sm_oc (by decide) (sm_on)) ?_
  refine v_goto (tgt := 24) dX6_init_40 rfl ?_
  refine v_blk bX6_init_24 [.ref 70, .int (10 : Int32)] [.int (14 : Int32), .int (10 : Int32)] hz212 [] rfl (sm_on) ?_
  refine v_icmp_ge (tgt := 43) dX6_init_27 rfl (fun hc => absurd hc (by decide)) (fun _ => ?_)
  refine v_blk bX6_init_30 [.ref 70, .int (11 : Int32)] [] hz213 [((10 : Int32), 14)] rfl (sm_oc (by decide) (sm_on)) ?_
  refine v_goto (tgt := 24) dX6_init_40 rfl ?_
  refine v_blk bX6_init_24 [.ref 70, .int (11 : Int32)] [.int (14 : Int32), .int (11 : Int32)] hz213 [] rfl (sm_on) ?_
  refine v_icmp_ge (tgt := 43) dX6_init_27 rfl (fun hc => absurd hc (by decide)) (fun _ => ?_)
  refine v_blk bX6_init_30 [.ref 70, .int (12 : Int32)] [] hz214 [((11 : Int32), 14)] rfl (sm_oc (by decide) (sm_on)) ?_
  refine v_goto (tgt := 24) dX6_init_40 rfl ?_
  refine v_blk bX6_init_24 [.ref 70, .int (12 : Int32)] [.int (14 : Int32), .int (12 : Int32)] hz214 [] rfl (sm_on) ?_
  refine v_icmp_ge (tgt := 43) dX6_init_27 rfl (fun hc => absurd hc (by decide)) (fun _ => ?_)
  refine v_blk bX6_init_30 [.ref 70, .int (13 : Int32)] [] hz215 [((12 : Int32), 14)] rfl (sm_oc (by decide) (sm_on)) ?_
  refine v_goto (tgt := 24) dX6_init_40 rfl ?_
  refine v_blk bX6_init_24 [.ref 70, .int (13 : Int32)] [.int (14 : Int32), .int (13 : Int32)] hz215 [] rfl (sm_on) ?_
  refine v_icmp_ge (tgt := 43) dX6_init_27 rfl (fun hc => absurd hc (by decide)) (fun _ => ?_)
  refine v_blk bX6_init_30 [.ref 70, .int (14 : Int32)] [] hz216 [((13 : Int32), 14)] rfl (sm_oc (by decide) (sm_on)) ?_
  refine v_goto (tgt := 24) dX6_init_40 rfl ?_
  refine v_blk bX6_init_24 [.ref 70, .int (14 : Int32)] [.int (14 : Int32), .int (14 : Int32)] hz216 [] rfl (sm_on) ?_
  refine v_icmp_ge (tgt := 43) dX6_init_27 rfl (fun _ => ?_) (fun hc => absurd hc (by decide))
  exact v_retv dX6_init_43 rfl
set_option maxRecDepth 20000 in
theorem nX11_init_0 {l : Launch} : sm_Rt l mX11_init 3 71 9905 true true [.ref 0] hz1 (none, hz217) := by
  refine sm_Rt.ofV (L := [.ref 0, .retAddr 0]) (by decide) (Nat.le_of_ble_eq_true rfl) rfl ?_
  refine v_blk bX11_init_0 [.ref 0, .retAddr 0] [.ref 0] hz1 [] rfl (sm_on) ?_
  refine v_obj dX11_init_1 (by decide) wmX11_1 wiObj wcObj (Nat.le_of_ble_eq_true rfl) ?_
  refine v_blk bX11_init_4 [.ref 0, .retAddr 0] [.ref 0] hz1 [] rfl (sm_on) ?_
  refine v_new 70 9899 kX8 dX11_init_5 wCX11_7 wN8 wIX8 zX8 ?_
  show sm_V _ _ _ _ _ _ 8 [.ref 0, .retAddr 0] [.ref 1, .ref 0] hz2 _ _
  refine v_blk bX11_init_8 [.ref 0, .retAddr 0] [.ref 1, .ref 1, .ref 0] hz2 [] rfl (sm_on) ?_
  refine v_callI [] [.ref 1, .ref 0] 69 9819 nX8_init_1 (ciX11_9 rfl) dX11_init_9 rfl rfl (by decide) (by decide) (Nat.le_of_ble_eq_true rfl) ?_
  show sm_V _ _ _ _ _ _ 12 [.ref 0, .retAddr 0] [.ref 1, .ref 0] hz4 _ _
  refine v_blk bX11_init_12 [.ref 0, .retAddr 0] [.ref 0] hz5 [] rfl (sm_on) ?_
  refine v_new 68 9805 kX2 dX11_init_16 wCX11_16 wN2 wIX2 zX2 ?_
  show sm_V _ _ _ _ _ _ 19 [.ref 0, .retAddr 0] [.ref 3, .ref 0] hz6 _ _
  refine v_blk bX11_init_19 [.ref 0, .retAddr 0] [.ref 3, .ref 3, .ref 0] hz6 [] rfl (sm_on) ?_
  refine v_callI [] [.ref 3, .ref 0] 58 9673 nX2_init_3 (ciX11_18 rfl) dX11_init_20 rfl rfl (by decide) (by decide) (Nat.le_of_ble_eq_true rfl) ?_
  show sm_V _ _ _ _ _ _ 23 [.ref 0, .retAddr 0] [.ref 3, .ref 0] hz27 _ _
  refine v_blk bX11_init_23 [.ref 0, .retAddr 0] [.ref 0] hz28 [] rfl (sm_on) ?_
  refine v_new 57 9671 kX5 dX11_init_27 wCX11_23 wN5 wIX5 zX5 ?_
  show sm_V _ _ _ _ _ _ 30 [.ref 0, .retAddr 0] [.ref 14, .ref 0] hz29 _ _
  refine v_blk bX11_init_30 [.ref 0, .retAddr 0] [.ref 14, .ref 14, .ref 0] hz29 [] rfl (sm_on) ?_
  refine v_callI [] [.ref 14, .ref 0] 56 9657 nX5_init_14 (ciX11_25 rfl) dX11_init_31 rfl rfl (by decide) (by decide) (Nat.le_of_ble_eq_true rfl) ?_
  show sm_V _ _ _ _ _ _ 34 [.ref 0, .retAddr 0] [.ref 14, .ref 0] hz31 _ _
  refine v_blk bX11_init_34 [.ref 0, .retAddr 0] [.ref 0] hz32 [] rfl (sm_on) ?_
  refine v_new 55 9654 kX6 dX11_init_38 wCX11_30 wN6 wIX6 zX6 ?_
  show sm_V _ _ _ _ _ _ 41 [.ref 0, .retAddr 0] [.ref 16, .ref 0] hz33 _ _
  refine v_blk bX11_init_41 [.ref 0, .retAddr 0] [.ref 16, .ref 16, .ref 0] hz33 [] rfl (sm_on) ?_
  refine v_callI [] [.ref 16, .ref 0] 54 9640 nX6_init_16 (ciX11_32 rfl) dX11_init_42 rfl rfl (by decide) (by decide) (Nat.le_of_ble_eq_true rfl) ?_
  show sm_V _ _ _ _ _ _ 45 [.ref 0, .retAddr 0] [.ref 16, .ref 0] hz50 _ _
  refine v_blk bX11_init_45 [.ref 0, .retAddr 0] [.ref 0] hz51 [] rfl (sm_on) ?_
  refine v_new 53 9637 kX6 dX11_init_49 wCX11_30 wN6 wIX6 zX6 ?_
  show sm_V _ _ _ _ _ _ 52 [.ref 0, .retAddr 0] [.ref 18, .ref 0] hz52 _ _
  refine v_blk bX11_init_52 [.ref 0, .retAddr 0] [.ref 18, .ref 18, .ref 0] hz52 [] rfl (sm_on) ?_
  refine v_callI [] [.ref 18, .ref 0] 52 9623 nX6_init_18 (ciX11_32 rfl) dX11_init_53 rfl rfl (by decide) (by decide) (Nat.le_of_ble_eq_true rfl) ?_
  show sm_V _ _ _ _ _ _ 56 [.ref 0, .retAddr 0] [.ref 18, .ref 0] hz69 _ _
  refine v_blk bX11_init_56 [.ref 0, .retAddr 0] [.ref 0] hz70 [] rfl (sm_on) ?_
  refine v_new 51 9617 kX7 dX11_init_60 wCX11_40 wN7 wIX7 zX7 ?_
  show sm_V _ _ _ _ _ _ 63 [.ref 0, .retAddr 0] [.ref 20, .ref 0] hz71 _ _
  refine v_blk bX11_init_63 [.ref 0, .retAddr 0] [.ref 20, .ref 20, .ref 0] hz71 [] rfl (sm_on) ?_
  refine v_callI [] [.ref 20, .ref 0] 47 9497 nX7_init_20 (ciX11_42 rfl) dX11_init_64 rfl rfl (by decide) (by decide) (Nat.le_of_ble_eq_true rfl) ?_
  show sm_V _ _ _ _ _ _ 67 [.ref 0, .retAddr 0] [.ref 20, .ref 0] hz80 _ _
  refine v_blk bX11_init_67 [.ref 0, .retAddr 0] [.int (2 : Int32), .ref 0] hz81 [] rfl (sm_on) ?_
  refine v_newobj (t := 160) (i0 := 5) (N := 2) 46 9495 dX11_init_72 rfl rfl rfl rfl wCX11_47 (by decide) (by decide) (by decide) (by decide) ?_
  show sm_V _ _ _ _ _ _ 75 [.ref 0, .retAddr 0] [.ref 25, .ref 0] hz82 _ _
  refine v_blk bX11_init_75 [.ref 0, .retAddr 0] [.ref 0] hz83 [] rfl (sm_on) ?_
  refine v_new 45 9492 kX4 dX11_init_79 wCX11_53 wN4 wIX4 zX4 ?_
  show sm_V _ _ _ _ _ _ 82 [.ref 0, .retAddr 0] [.ref 26, .ref 0] hz84 _ _
  refine v_blk bX11_init_82 [.ref 0, .retAddr 0] [.ref 26, .ref 26, .ref 0] hz84 [] rfl (sm_on) ?_
  refine v_callI [] [.ref 26, .ref 0] 41 8701 nX4_init_26 (ciX11_55 rfl) dX11_init_83 rfl rfl (by decide) (by decide) (Nat.le_of_ble_eq_true rfl) ?_
  show sm_V _ _ _ _ _ _ 86 [.ref 0, .retAddr 0] [.ref 26, .ref 0] hz93 _ _
  refine v_blk bX11_init_86 [.ref 0, .retAddr 0] [.ref 0] hz94 [] rfl (sm_on) ?_
  refine v_new 40 8699 kX10 dX11_init_90 wCX11_60 wN10 wIX10 zX10 ?_
  show sm_V _ _ _ _ _ _ 93 [.ref 0, .retAddr 0] [.ref 31, .ref 0] hz95 _ _
  refine v_blk bX11_init_93 [.ref 0, .retAddr 0] [.ref 31, .ref 31, .ref 0] hz95 [] rfl (sm_on) ?_
  refine v_callI [] [.ref 31, .ref 0] 38 4600 nX10_init_31 (ciX11_62 rfl) dX11_init_94 rfl rfl (by decide) (by decide) (Nat.le_of_ble_eq_true rfl) ?_
  show sm_V _ _ _ _ _ _ 97 [.ref 0, .retAddr 0] [.ref 31, .ref 0] hz100 _ _
  refine v_blk bX11_init_97 [.ref 0, .retAddr 0] [.ref 0] hz101 [] rfl (sm_on) ?_
  refine v_new 37 4593 kX1 dX11_init_101 wCX11_67 wN1 wIX1 zX1 ?_
  show sm_V _ _ _ _ _ _ 104 [.ref 0, .retAddr 0] [.ref 34, .ref 0] hz102 _ _
  refine v_blk bX11_init_104 [.ref 0, .retAddr 0] [.ref 34, .ref 34, .ref 0] hz102 [] rfl (sm_on) ?_
  refine v_callI [] [.ref 34, .ref 0] 21 350 nX1_init_34 (ciX11_69 rfl) dX11_init_105 rfl rfl (by decide) (by decide) (Nat.le_of_ble_eq_true rfl) ?_
  show sm_V _ _ _ _ _ _ 108 [.ref 0, .retAddr 0] [.ref 34, .ref 0] hz126 _ _
  refine v_blk bX11_init_108 [.ref 0, .retAddr 0] [.ref 0] hz127 [] rfl (sm_on) ?_
  refine v_new 20 344 kX0 dX11_init_112 wCX11_74 wN0 wIX0 zX0 ?_
  show sm_V _ _ _ _ _ _ 115 [.ref 0, .retAddr 0] [.ref 51, .ref 0] hz128 _ _
  refine v_blk bX11_init_115 [.ref 0, .retAddr 0] [.ref 51, .ref 51, .ref 0] hz128 [] rfl (sm_on) ?_
  refine v_callI [] [.ref 51, .ref 0] 16 249 nX0_init_51 (ciX11_76 rfl) dX11_init_116 rfl rfl (by decide) (by decide) (Nat.le_of_ble_eq_true rfl) ?_
  show sm_V _ _ _ _ _ _ 119 [.ref 0, .retAddr 0] [.ref 51, .ref 0] hz137 _ _
  refine v_blk bX11_init_119 [.ref 0, .retAddr 0] [.int (3 : Int32), .ref 0] hz138 [] rfl (sm_on) ?_
  refine v_newobj (t := 161) (i0 := 6) (N := 3) 15 246 dX11_init_124 rfl rfl rfl rfl wCX11_30 (by decide) (by decide) (by decide) (by decide) ?_
  show sm_V _ _ _ _ _ _ 127 [.ref 0, .retAddr 0] [.ref 56, .ref 0] hz139 _ _
  refine v_blk bX11_init_127 [.ref 0, .retAddr 0] [.int (3 : Int32), .ref 0] hz140 [] rfl (sm_on) ?_
  refine v_newi (t := 103) (i0 := 3) (N := 3) 14 243 dX11_init_132 rfl wA_boolean (by decide) (by decide) (by decide) (fun _ _ h => h) (by decide) (fun ba cA => sm_enz_i rfl rfl rfl rfl cA) ?_
  show sm_V _ _ _ _ _ _ 134 [.ref 0, .retAddr 0] [.ref 57, .ref 0] hz141 _ _
  refine v_blk bX11_init_134 [.ref 0, .int (0 : Int32)] [] hz142 [] rfl (sm_on) ?_
  refine v_blk bX11_init_139 [.ref 0, .int (0 : Int32)] [.int (2 : Int32), .int (0 : Int32)] hz142 [] rfl (sm_on) ?_
  refine v_icmp_ge (tgt := 163) dX11_init_141 rfl (fun hc => absurd hc (by decide)) (fun _ => ?_)
  refine v_blk bX11_init_144 [.ref 0, .int (0 : Int32)] [.int (0 : Int32), .ref 25] hz142 [] rfl (sm_on) ?_
  refine v_new 13 237 kX9 dX11_init_149 wCX11_47 wN9 wIX9 zX9 ?_
  show sm_V _ _ _ _ _ _ 152 [.ref 0, .int (0 : Int32)] [.ref 58, .int (0 : Int32), .ref 25] hz143 _ _
  refine v_blk bX11_init_152 [.ref 0, .int (0 : Int32)] [.ref 58, .ref 58, .int (0 : Int32), .ref 25] hz143 [] rfl (sm_on) ?_
  refine v_callI [] [.ref 58, .int (0 : Int32), .ref 25] 10 147 nX9_init_58 (ciX11_89 rfl) dX11_init_153 rfl rfl (by decide) (by decide) (Nat.le_of_ble_eq_true rfl) ?_
  show sm_V _ _ _ _ _ _ 156 [.ref 0, .int (0 : Int32)] [.ref 58, .int (0 : Int32), .ref 25] hz150 _ _
  refine v_blk bX11_init_156 [.ref 0, .int (1 : Int32)] [] hz151 [((0 : Int32), 2)] rfl (sm_oc (by decide) (sm_on)) ?_
  refine v_goto (tgt := 139) dX11_init_160 rfl ?_
  refine v_blk bX11_init_139 [.ref 0, .int (1 : Int32)] [.int (2 : Int32), .int (1 : Int32)] hz151 [] rfl (sm_on) ?_
  refine v_icmp_ge (tgt := 163) dX11_init_141 rfl (fun hc => absurd hc (by decide)) (fun _ => ?_)
  refine v_blk bX11_init_144 [.ref 0, .int (1 : Int32)] [.int (1 : Int32), .ref 25] hz151 [] rfl (sm_on) ?_
  refine v_new 9 141 kX9 dX11_init_149 wCX11_47 wN9 wIX9 zX9 ?_
  show sm_V _ _ _ _ _ _ 152 [.ref 0, .int (1 : Int32)] [.ref 62, .int (1 : Int32), .ref 25] hz152 _ _
  refine v_blk bX11_init_152 [.ref 0, .int (1 : Int32)] [.ref 62, .ref 62, .int (1 : Int32), .ref 25] hz152 [] rfl (sm_on) ?_
  refine v_callI [] [.ref 62, .int (1 : Int32), .ref 25] 6 51 nX9_init_62 (ciX11_89 rfl) dX11_init_153 rfl rfl (by decide) (by decide) (Nat.le_of_ble_eq_true rfl) ?_
  show sm_V _ _ _ _ _ _ 156 [.ref 0, .int (1 : Int32)] [.ref 62, .int (1 : Int32), .ref 25] hz159 _ _
  refine v_blk bX11_init_156 [.ref 0, .int (2 : Int32)] [] hz160 [((1 : Int32), 2)] rfl (sm_oc (by decide) (sm_on)) ?_
  refine v_goto (tgt := 139) dX11_init_160 rfl ?_
  refine v_blk bX11_init_139 [.ref 0, .int (2 : Int32)] [.int (2 : Int32), .int (2 : Int32)] hz160 [] rfl (sm_on) ?_
  refine v_icmp_ge (tgt := 163) dX11_init_141 rfl (fun _ => ?_) (fun hc => absurd hc (by decide))
  refine v_blk bX11_init_163 [.ref 0, .int (0 : Int32)] [] hz160 [] rfl (sm_on) ?_
  refine v_blk bX11_init_165 [.ref 0, .int (0 : Int32)] [.int (3 : Int32), .int (0 : Int32)] hz160 [] rfl (sm_on) ?_
  refine v_icmp_ge (tgt := 189) dX11_init_167 rfl (fun hc => absurd hc (by decide)) (fun _ => ?_)
  refine v_blk bX11_init_170 [.ref 0, .int (0 : Int32)] [.int (0 : Int32), .ref 56] hz160 [] rfl (sm_on) ?_
  refine v_new 5 48 kX6 dX11_init_175 wCX11_30 wN6 wIX6 zX6 ?_
  show sm_V _ _ _ _ _ _ 178 [.ref 0, .int (0 : Int32)] [.ref 66, .int (0 : Int32), .ref 56] hz161 _ _
  refine v_blk bX11_init_178 [.ref 0, .int (0 : Int32)] [.ref 66, .ref 66, .int (0 : Int32), .ref 56] hz161 [] rfl (sm_on) ?_
  refine v_callI [] [.ref 66, .int (0 : Int32), .ref 56] 4 34 nX6_init_66 (ciX11_32 rfl) dX11_init_179 rfl rfl (by decide) (by decide) (Nat.le_of_ble_eq_true rfl) ?_
  show sm_V _ _ _ _ _ _ 182 [.ref 0, .int (0 : Int32)] [.ref 66, .int (0 : Int32), .ref 56] hz178 _ _
  refine v_blk bX11_init_182 [.ref 0, .int (1 : Int32)] [] hz179 [((0 : Int32), 3)] rfl (sm_oc (by decide) (sm_on)) ?_
  refine v_goto (tgt := 165) dX11_init_186 rfl ?_
  refine v_blk bX11_init_165 [.ref 0, .int (1 : Int32)] [.int (3 : Int32), .int (1 : Int32)] hz179 [] rfl (sm_on) ?_
  refine v_icmp_ge (tgt := 189) dX11_init_167 rfl (fun hc => absurd hc (by decide)) (fun _ => ?_)
  refine v_blk bX11_init_170 [.ref 0, .int (1 : Int32)] [.int (1 : Int32), .ref 56] hz179 [] rfl (sm_on) ?_
  refine v_new 3 31 kX6 dX11_init_175 wCX11_30 wN6 wIX6 zX6 ?_
  show sm_V _ _ _ _ _ _ 178 [.ref 0, .int (1 : Int32)] [.ref 68, .int (1 : Int32), .ref 56] hz180 _ _
  refine v_blk bX11_init_178 [.ref 0, .int (1 : Int32)] [.ref 68, .ref 68, .int (1 : Int32), .ref 56] hz180 [] rfl (sm_on) ?_
  refine v_callI [] [.ref 68, .int (1 : Int32), .ref 56] 2 17 nX6_init_68 (ciX11_32 rfl) dX11_init_179 rfl rfl (by decide) (by decide) (Nat.le_of_ble_eq_true rfl) ?_
  show sm_V _ _ _ _ _ _ 182 [.ref 0, .int (1 : Int32)] [.ref 68, .int (1 : Int32), .ref 56] hz197 _ _
  refine v_blk bX11_init_182 [.ref 0, .int (2 : Int32)] [] hz198 [((1 : Int32), 3)] rfl (sm_oc (by decide) (sm_on)) ?_
  refine v_goto (tgt := 165) dX11_init_186 rfl ?_
  refine v_blk bX11_init_165 [.ref 0, .int (2 : Int32)] [.int (3 : Int32), .int (2 : Int32)] hz198 [] rfl (sm_on) ?_
  refine v_icmp_ge (tgt := 189) dX11_init_167 rfl (fun hc => absurd hc (by decide)) (fun _ => ?_)
  refine v_blk bX11_init_170 [.ref 0, .int (2 : Int32)] [.int (2 : Int32), .ref 56] hz198 [] rfl (sm_on) ?_
  refine v_new 1 14 kX6 dX11_init_175 wCX11_30 wN6 wIX6 zX6 ?_
  show sm_V _ _ _ _ _ _ 178 [.ref 0, .int (2 : Int32)] [.ref 70, .int (2 : Int32), .ref 56] hz199 _ _
  refine v_blk bX11_init_178 [.ref 0, .int (2 : Int32)] [.ref 70, .ref 70, .int (2 : Int32), .ref 56] hz199 [] rfl (sm_on) ?_
  refine v_callI [] [.ref 70, .int (2 : Int32), .ref 56] 0 0 nX6_init_70 (ciX11_32 rfl) dX11_init_179 rfl rfl (by decide) (by decide) (Nat.le_of_ble_eq_true rfl) ?_
  show sm_V _ _ _ _ _ _ 182 [.ref 0, .int (2 : Int32)] [.ref 70, .int (2 : Int32), .ref 56] hz216 _ _
  refine v_blk bX11_init_182 [.ref 0, .int (3 : Int32)] [] hz217 [((2 : Int32), 3)] rfl (sm_oc (by decide) (sm_on)) ?_
  refine v_goto (tgt := 165) dX11_init_186 rfl ?_
  refine v_blk bX11_init_165 [.ref 0, .int (3 : Int32)] [.int (3 : Int32), .int (3 : Int32)] hz217 [] rfl (sm_on) ?_
  refine v_icmp_ge (tgt := 189) dX11_init_167 rfl (fun _ => ?_) (fun hc => absurd hc (by decide))
  exact v_retv dX11_init_189 rfl
set_option maxRecDepth 20000 in
theorem nX12_init_72 {l : Launch} : sm_Rt l mX12_init 1 34 164546 true true [.ref 72] hz218 (none, hz286) := by
  refine sm_Rt.ofV (L := [.ref 72]) (by decide) (Nat.le_of_ble_eq_true rfl) rfl ?_
  refine v_blk bX12_init_0 [.ref 72] [.ref 72] hz218 [] rfl (sm_on) ?_
  refine v_obj dX12_init_1 (by decide) wmX12_417 wiObj wcObj (Nat.le_of_ble_eq_true rfl) ?_
  refine v_blk bX12_init_4 [.ref 72] [.int (24 : Int32), .ref 72] hz218 [] rfl (sm_on) ?_
  refine v_newi (t := 100) (i0 := 0) (N := 24) 33 164522 dX12_init_7 rfl wA_int (by decide) (by decide) (by decide) (fun _ _ h => h) (by decide) (fun ba cA => sm_enz_i rfl rfl rfl rfl cA) ?_
  show sm_V _ _ _ _ _ _ 9 [.ref 72] [.ref 73, .ref 72] hz219 _ _
  refine v_blk bX12_init_9 [.ref 72] [.int (10 : Int32), .ref 72] hz220 [] rfl (sm_on) ?_
  refine v_newi (t := 100) (i0 := 0) (N := 10) 32 164512 dX12_init_15 rfl wA_int (by decide) (by decide) (by decide) (fun _ _ h => h) (by decide) (fun ba cA => sm_enz_i rfl rfl rfl rfl cA) ?_
  show sm_V _ _ _ _ _ _ 17 [.ref 72] [.ref 74, .ref 72] hz221 _ _
  refine v_blk bX12_init_17 [.ref 72] [.int (10 : Int32), .ref 72] hz222 [] rfl (sm_on) ?_
  refine v_newi (t := 100) (i0 := 0) (N := 10) 31 164502 dX12_init_23 rfl wA_int (by decide) (by decide) (by decide) (fun _ _ h => h) (by decide) (fun ba cA => sm_enz_i rfl rfl rfl rfl cA) ?_
  show sm_V _ _ _ _ _ _ 25 [.ref 72] [.ref 75, .ref 72] hz223 _ _
  refine v_blk bX12_init_25 [.ref 72] [.int (14 : Int32), .ref 72] hz224 [] rfl (sm_on) ?_
  refine v_newi (t := 100) (i0 := 0) (N := 14) 30 164488 dX12_init_31 rfl wA_int (by decide) (by decide) (by decide) (fun _ _ h => h) (by decide) (fun ba cA => sm_enz_i rfl rfl rfl rfl cA) ?_
  show sm_V _ _ _ _ _ _ 33 [.ref 72] [.ref 76, .ref 72] hz225 _ _
  refine v_blk bX12_init_33 [.ref 72] [.int (14 : Int32), .ref 72] hz226 [] rfl (sm_on) ?_
  refine v_newi (t := 100) (i0 := 0) (N := 14) 29 164474 dX12_init_39 rfl wA_int (by decide) (by decide) (by decide) (fun _ _ h => h) (by decide) (fun ba cA => sm_enz_i rfl rfl rfl rfl cA) ?_
  show sm_V _ _ _ _ _ _ 41 [.ref 72] [.ref 77, .ref 72] hz227 _ _
  refine v_blk bX12_init_41 [.ref 72] [.int (14 : Int32), .ref 72] hz228 [] rfl (sm_on) ?_
  refine v_newi (t := 100) (i0 := 0) (N := 14) 28 164460 dX12_init_47 rfl wA_int (by decide) (by decide) (by decide) (fun _ _ h => h) (by decide) (fun ba cA => sm_enz_i rfl rfl rfl rfl cA) ?_
  show sm_V _ _ _ _ _ _ 49 [.ref 72] [.ref 78, .ref 72] hz229 _ _
  refine v_blk bX12_init_49 [.ref 72] [.int (14 : Int32), .ref 72] hz230 [] rfl (sm_on) ?_
  refine v_newi (t := 100) (i0 := 0) (N := 14) 27 164446 dX12_init_55 rfl wA_int (by decide) (by decide) (by decide) (fun _ _ h => h) (by decide) (fun ba cA => sm_enz_i rfl rfl rfl rfl cA) ?_
  show sm_V _ _ _ _ _ _ 57 [.ref 72] [.ref 79, .ref 72] hz231 _ _
  refine v_blk bX12_init_57 [.ref 72] [.int (14 : Int32), .ref 72] hz232 [] rfl (sm_on) ?_
  refine v_newi (t := 100) (i0 := 0) (N := 14) 26 164432 dX12_init_63 rfl wA_int (by decide) (by decide) (by decide) (fun _ _ h => h) (by decide) (fun ba cA => sm_enz_i rfl rfl rfl rfl cA) ?_
  show sm_V _ _ _ _ _ _ 65 [.ref 72] [.ref 80, .ref 72] hz233 _ _
  refine v_blk bX12_init_65 [.ref 72] [.int (14 : Int32), .ref 72] hz234 [] rfl (sm_on) ?_
  refine v_newi (t := 100) (i0 := 0) (N := 14) 25 164418 dX12_init_71 rfl wA_int (by decide) (by decide) (by decide) (fun _ _ h => h) (by decide) (fun ba cA => sm_enz_i rfl rfl rfl rfl cA) ?_
  show sm_V _ _ _ _ _ _ 73 [.ref 72] [.ref 81, .ref 72] hz235 _ _
  refine v_blk bX12_init_73 [.ref 72] [.int (14 : Int32), .ref 72] hz236 [] rfl (sm_on) ?_
  refine v_newi (t := 100) (i0 := 0) (N := 14) 24 164404 dX12_init_79 rfl wA_int (by decide) (by decide) (by decide) (fun _ _ h => h) (by decide) (fun ba cA => sm_enz_i rfl rfl rfl rfl cA) ?_
  show sm_V _ _ _ _ _ _ 81 [.ref 72] [.ref 82, .ref 72] hz237 _ _
  refine v_blk bX12_init_81 [.ref 72] [.int (14 : Int32), .ref 72] hz238 [] rfl (sm_on) ?_
  refine v_newi (t := 100) (i0 := 0) (N := 14) 23 164390 dX12_init_100 rfl wA_int (by decide) (by decide) (by decide) (fun _ _ h => h) (by decide) (fun ba cA => sm_enz_i rfl rfl rfl rfl cA) ?_
  show sm_V _ _ _ _ _ _ 102 [.ref 72] [.ref 83, .ref 72] hz239 _ _
  refine v_blk bX12_init_102 [.ref 72] [.int (80 : Int32), .ref 72] hz240 [] rfl (sm_on) ?_
  refine v_newi (t := 100) (i0 := 0) (N := 80) 22 164310 dX12_init_108 rfl wA_int (by decide) (by decide) (by decide) (fun _ _ h => h) (by decide) (fun ba cA => sm_enz_i rfl rfl rfl rfl cA) ?_
  show sm_V _ _ _ _ _ _ 110 [.ref 72] [.ref 84, .ref 72] hz241 _ _
  refine v_blk bX12_init_110 [.ref 72] [.int (30 : Int32), .ref 72] hz242 [] rfl (sm_on) ?_
  refine v_newi (t := 100) (i0 := 0) (N := 30) 21 164280 dX12_init_116 rfl wA_int (by decide) (by decide) (by decide) (fun _ _ h => h) (by decide) (fun ba cA => sm_enz_i rfl rfl rfl rfl cA) ?_
  show sm_V _ _ _ _ _ _ 118 [.ref 72] [.ref 85, .ref 72] hz243 _ _
  refine v_blk bX12_init_118 [.ref 72] [.int (30 : Int32), .ref 72] hz244 [] rfl (sm_on) ?_
  refine v_newi (t := 100) (i0 := 0) (N := 30) 20 164250 dX12_init_124 rfl wA_int (by decide) (by decide) (by decide) (fun _ _ h => h) (by decide) (fun ba cA => sm_enz_i rfl rfl rfl rfl cA) ?_
  show sm_V _ _ _ _ _ _ 126 [.ref 72] [.ref 86, .ref 72] hz245 _ _
  refine v_blk bX12_init_126 [.ref 72] [.int (30 : Int32), .ref 72] hz246 [] rfl (sm_on) ?_
  refine v_newi (t := 100) (i0 := 0) (N := 30) 19 164220 dX12_init_132 rfl wA_int (by decide) (by decide) (by decide) (fun _ _ h => h) (by decide) (fun ba cA => sm_enz_i rfl rfl rfl rfl cA) ?_
  show sm_V _ _ _ _ _ _ 134 [.ref 72] [.ref 87, .ref 72] hz247 _ _
  refine v_blk bX12_init_134 [.ref 72] [.int (30 : Int32), .ref 72] hz248 [] rfl (sm_on) ?_
  refine v_newi (t := 100) (i0 := 0) (N := 30) 18 164190 dX12_init_140 rfl wA_int (by decide) (by decide) (by decide) (fun _ _ h => h) (by decide) (fun ba cA => sm_enz_i rfl rfl rfl rfl cA) ?_
  show sm_V _ _ _ _ _ _ 142 [.ref 72] [.ref 88, .ref 72] hz249 _ _
  refine v_blk bX12_init_142 [.ref 72] [.int (2 : Int32), .ref 72] hz250 [] rfl (sm_on) ?_
  refine v_newi (t := 100) (i0 := 0) (N := 2) 17 164188 dX12_init_147 rfl wA_int (by decide) (by decide) (by decide) (fun _ _ h => h) (by decide) (fun ba cA => sm_enz_i rfl rfl rfl rfl cA) ?_
  show sm_V _ _ _ _ _ _ 149 [.ref 72] [.ref 89, .ref 72] hz251 _ _
  refine v_blk bX12_init_149 [.ref 72] [.int (2 : Int32), .ref 72] hz252 [((0 : Int32), 2), ((1 : Int32), 2)] rfl (sm_oc (by decide) (sm_oc (by decide) (sm_on))) ?_
  refine v_newi (t := 100) (i0 := 0) (N := 2) 16 164186 dX12_init_162 rfl wA_int (by decide) (by decide) (by decide) (fun _ _ h => h) (by decide) (fun ba cA => sm_enz_i rfl rfl rfl rfl cA) ?_
  show sm_V _ _ _ _ _ _ 164 [.ref 72] [.ref 90, .ref 72] hz253 _ _
  refine v_blk bX12_init_164 [.ref 72] [.int (60 : Int32), .ref 72] hz254 [] rfl (sm_on) ?_
  refine v_newi (t := 100) (i0 := 0) (N := 60) 15 164126 dX12_init_170 rfl wA_int (by decide) (by decide) (by decide) (fun _ _ h => h) (by decide) (fun ba cA => sm_enz_i rfl rfl rfl rfl cA) ?_
  show sm_V _ _ _ _ _ _ 172 [.ref 72] [.ref 91, .ref 72] hz255 _ _
  refine v_blk bX12_init_172 [.ref 72] [.int (30 : Int32), .ref 72] hz256 [] rfl (sm_on) ?_
  refine v_newi (t := 100) (i0 := 0) (N := 30) 14 164096 dX12_init_178 rfl wA_int (by decide) (by decide) (by decide) (fun _ _ h => h) (by decide) (fun ba cA => sm_enz_i rfl rfl rfl rfl cA) ?_
  show sm_V _ _ _ _ _ _ 180 [.ref 72] [.ref 92, .ref 72] hz257 _ _
  refine v_blk bX12_init_180 [.ref 72] [.int (14 : Int32), .ref 72] hz258 [] rfl (sm_on) ?_
  refine v_newi (t := 100) (i0 := 0) (N := 14) 13 164082 dX12_init_186 rfl wA_int (by decide) (by decide) (by decide) (fun _ _ h => h) (by decide) (fun ba cA => sm_enz_i rfl rfl rfl rfl cA) ?_
  show sm_V _ _ _ _ _ _ 188 [.ref 72] [.ref 93, .ref 72] hz259 _ _
  refine v_blk bX12_init_188 [.ref 72] [.int (10 : Int32), .ref 72] hz260 [] rfl (sm_on) ?_
  refine v_newi (t := 100) (i0 := 0) (N := 10) 12 164072 dX12_init_194 rfl wA_int (by decide) (by decide) (by decide) (fun _ _ h => h) (by decide) (fun ba cA => sm_enz_i rfl rfl rfl rfl cA) ?_
  show sm_V _ _ _ _ _ _ 196 [.ref 72] [.ref 94, .ref 72] hz261 _ _
  refine v_blk bX12_init_196 [.ref 72] [.int (10 : Int32), .ref 72] hz262 [] rfl (sm_on) ?_
  refine v_newi (t := 100) (i0 := 0) (N := 10) 11 164062 dX12_init_202 rfl wA_int (by decide) (by decide) (by decide) (fun _ _ h => h) (by decide) (fun ba cA => sm_enz_i rfl rfl rfl rfl cA) ?_
  show sm_V _ _ _ _ _ _ 204 [.ref 72] [.ref 95, .ref 72] hz263 _ _
  refine v_blk bX12_init_204 [.ref 72] [.int (10 : Int32), .ref 72] hz264 [] rfl (sm_on) ?_
  refine v_newi (t := 100) (i0 := 0) (N := 10) 10 164052 dX12_init_210 rfl wA_int (by decide) (by decide) (by decide) (fun _ _ h => h) (by decide) (fun ba cA => sm_enz_i rfl rfl rfl rfl cA) ?_
  show sm_V _ _ _ _ _ _ 212 [.ref 72] [.ref 96, .ref 72] hz265 _ _
  refine v_blk bX12_init_212 [.ref 72] [.int (10 : Int32), .ref 72] hz266 [] rfl (sm_on) ?_
  refine v_newi (t := 100) (i0 := 0) (N := 10) 9 164042 dX12_init_218 rfl wA_int (by decide) (by decide) (by decide) (fun _ _ h => h) (by decide) (fun ba cA => sm_enz_i rfl rfl rfl rfl cA) ?_
  show sm_V _ _ _ _ _ _ 220 [.ref 72] [.ref 97, .ref 72] hz267 _ _
  refine v_blk bX12_init_220 [.ref 72] [.int (163840 : Int32), .ref 72] hz268 [] rfl (sm_on) ?_
  refine v_newi (t := 100) (i0 := 0) (N := 163840) 8 202 dX12_init_227 rfl wA_int (by decide) (by decide) (by decide) (fun _ _ h => h) (by decide) (fun ba cA => sm_enz_i rfl rfl rfl rfl cA) ?_
  show sm_V _ _ _ _ _ _ 229 [.ref 72] [.ref 98, .ref 72] hz269 _ _
  refine v_blk bX12_init_229 [.ref 72] [.int (100 : Int32), .ref 72] hz270 [] rfl (sm_on) ?_
  refine v_newi (t := 100) (i0 := 0) (N := 100) 7 102 dX12_init_235 rfl wA_int (by decide) (by decide) (by decide) (fun _ _ h => h) (by decide) (fun ba cA => sm_enz_i rfl rfl rfl rfl cA) ?_
  show sm_V _ _ _ _ _ _ 237 [.ref 72] [.ref 99, .ref 72] hz271 _ _
  refine v_blk bX12_init_237 [.ref 72] [.int (10 : Int32), .ref 72] hz272 [] rfl (sm_on) ?_
  refine v_newi (t := 100) (i0 := 0) (N := 10) 6 92 dX12_init_243 rfl wA_int (by decide) (by decide) (by decide) (fun _ _ h => h) (by decide) (fun ba cA => sm_enz_i rfl rfl rfl rfl cA) ?_
  show sm_V _ _ _ _ _ _ 245 [.ref 72] [.ref 100, .ref 72] hz273 _ _
  refine v_blk bX12_init_245 [.ref 72] [.int (10 : Int32), .ref 72] hz274 [] rfl (sm_on) ?_
  refine v_newi (t := 100) (i0 := 0) (N := 10) 5 82 dX12_init_251 rfl wA_int (by decide) (by decide) (by decide) (fun _ _ h => h) (by decide) (fun ba cA => sm_enz_i rfl rfl rfl rfl cA) ?_
  show sm_V _ _ _ _ _ _ 253 [.ref 72] [.ref 101, .ref 72] hz275 _ _
  refine v_blk bX12_init_253 [.ref 72] [.int (12 : Int32), .ref 72] hz276 [] rfl (sm_on) ?_
  refine v_newi (t := 100) (i0 := 0) (N := 12) 4 70 dX12_init_259 rfl wA_int (by decide) (by decide) (by decide) (fun _ _ h => h) (by decide) (fun ba cA => sm_enz_i rfl rfl rfl rfl cA) ?_
  show sm_V _ _ _ _ _ _ 261 [.ref 72] [.ref 102, .ref 72] hz277 _ _
  refine v_blk bX12_init_261 [.ref 72] [.int (12 : Int32), .ref 72] hz278 [] rfl (sm_on) ?_
  refine v_newi (t := 100) (i0 := 0) (N := 12) 3 58 dX12_init_267 rfl wA_int (by decide) (by decide) (by decide) (fun _ _ h => h) (by decide) (fun ba cA => sm_enz_i rfl rfl rfl rfl cA) ?_
  show sm_V _ _ _ _ _ _ 269 [.ref 72] [.ref 103, .ref 72] hz279 _ _
  refine v_blk bX12_init_269 [.ref 72] [.int (7 : Int32), .ref 72] hz280 [] rfl (sm_on) ?_
  refine v_newi (t := 100) (i0 := 0) (N := 7) 2 51 dX12_init_275 rfl wA_int (by decide) (by decide) (by decide) (fun _ _ h => h) (by decide) (fun ba cA => sm_enz_i rfl rfl rfl rfl cA) ?_
  show sm_V _ _ _ _ _ _ 277 [.ref 72] [.ref 104, .ref 72] hz281 _ _
  refine v_blk bX12_init_277 [.ref 72] [.int (3 : Int32), .ref 72] hz282 [] rfl (sm_on) ?_
  refine v_newi (t := 103) (i0 := 3) (N := 3) 1 48 dX12_init_282 rfl wA_boolean (by decide) (by decide) (by decide) (fun _ _ h => h) (by decide) (fun ba cA => sm_enz_i rfl rfl rfl rfl cA) ?_
  show sm_V _ _ _ _ _ _ 284 [.ref 72] [.ref 105, .ref 72] hz283 _ _
  refine v_blk bX12_init_284 [.ref 72] [.int (48 : Int32), .ref 72] hz284 [] rfl (sm_on) ?_
  refine v_newi (t := 100) (i0 := 0) (N := 48) 0 0 dX12_init_290 rfl wA_int (by decide) (by decide) (by decide) (fun _ _ h => h) (by decide) (fun ba cA => sm_enz_i rfl rfl rfl rfl cA) ?_
  show sm_V _ _ _ _ _ _ 292 [.ref 72] [.ref 106, .ref 72] hz285 _ _
  refine v_blk bX12_init_292 [.ref 72] [] hz286 [] rfl (sm_on) ?_
  exact v_retv dX12_init_295 rfl
