set_option maxRecDepth 10000 in
theorem tX9_schedule_i1_19 {l : Launch} {al : Bool} : ∀ (n : Nat) (v2 : Int32) (m : sm_S) (r : Int32 × sm_S), fX9_schedule_i1_19 n v2 m = some r → sm_W l mX9_schedule 2 al (some (.int r.1), sm_hp r.2) 19 [.ref 62, .ref 3, .int v2, .retAddr 0] [] (sm_hp m) := by
  intro n
  induction n with
  | zero =>
    intro v2 m r hf
    unfold fX9_schedule_i1_19 at hf
    cases hf
  | succ n ih =>
    intro v2 m r hf
    unfold fX9_schedule_i1_19 at hf
    refine w_blk bX9_schedule_19 [.ref 62, .ref 3, .int v2, .retAddr 0] [.int (m.1 62 2), .int v2] (sm_hp m) [] rfl (sm_on) ?_
    refine w_icmp_ge (tgt := 85) dX9_schedule_24 rfl (fun hc => ?_) (fun hc => ?_)
    · replace hf := sm_ift hc hf
      replace hf := sm_ck hf
      obtain ⟨q1, hf⟩ := hf
      refine w_blk bX9_schedule_85 [.ref 62, .ref 3, .int v2, .retAddr 0] [.int (m.1 65 (m.1 62 2).toNatClampNeg)] (sm_hp m) [((m.1 62 2), 30)] rfl (sm_oc q1 (sm_on)) ?_
      obtain rfl := Option.some.inj hf
      exact w_reti dX9_schedule_94 rfl rfl
    · replace hf := sm_iff hc hf
      replace hf := sm_ck hf
      obtain ⟨q2, hf⟩ := hf
      replace hf := sm_ck hf
      obtain ⟨q3, hf⟩ := hf
      replace hf := sm_ck hf
      obtain ⟨q4, hf⟩ := hf
      refine w_blk bX9_schedule_27 [.ref 62, .ref 3, .int v2, .int (m.1 63 (v2).toNatClampNeg)] [.int (m.1 64 (v2).toNatClampNeg), .int (m.1 63 (v2).toNatClampNeg), .ref 3, .int (m.1 65 (v2).toNatClampNeg), .int (v2 + (1 : Int32)), .ref 65] (sm_hp m) [(v2, 30), (v2, 30), (v2, 30)] rfl (sm_oc q2 (sm_oc q3 (sm_oc q4 (sm_on)))) ?_
      replace hf := sm_bd hf
      obtain ⟨r6, q5, hf⟩ := hf
      refine w_callV [.int (m.1 63 (v2).toNatClampNeg), .int (m.1 64 (v2).toNatClampNeg)] [.int (m.1 65 (v2).toNatClampNeg), .int (v2 + (1 : Int32)), .ref 65] (tX2_minutesFrom (m.1 63 (v2).toNatClampNeg) (m.1 64 (v2).toNatClampNeg) m r6 q5) (cvX9_49 rfl) dX9_schedule_55 rfl rfl (by decide) (by decide) rfl (Nat.le_of_ble_eq_true rfl) ?_
      show sm_W _ _ _ _ _ 58 [.ref 62, .ref 3, .int v2, .int (m.1 63 (v2).toNatClampNeg)] [.int r6, .int (m.1 65 (v2).toNatClampNeg), .int (v2 + (1 : Int32)), .ref 65] (sm_hp m)
      replace hf := sm_ck hf
      obtain ⟨q7, hf⟩ := hf
      replace hf := sm_ck hf
      obtain ⟨q8, hf⟩ := hf
      refine w_blk bX9_schedule_58 [.ref 62, .ref 3, .int v2, .int (m.1 63 (v2).toNatClampNeg)] [.int (m.1 64 (v2).toNatClampNeg), .int (m.1 63 (v2).toNatClampNeg), .ref 3, .int (v2 + (1 : Int32)), .ref 64] (sm_hp (sm_w1 m 65 (v2 + (1 : Int32)).toNatClampNeg ((m.1 65 (v2).toNatClampNeg) + r6))) [((v2 + (1 : Int32)), 30), (v2, 30)] rfl (sm_oc q7 (sm_oc q8 (sm_on))) ?_
      replace hf := sm_bd hf
      obtain ⟨r10, q9, hf⟩ := hf
      refine w_callV [.int (m.1 63 (v2).toNatClampNeg), .int (m.1 64 (v2).toNatClampNeg)] [.int (v2 + (1 : Int32)), .ref 64] (tX2_otherEnd (m.1 63 (v2).toNatClampNeg) (m.1 64 (v2).toNatClampNeg) (sm_w1 m 65 (v2 + (1 : Int32)).toNatClampNeg ((m.1 65 (v2).toNatClampNeg) + r6)) r10 q9) (cvX9_45 rfl) dX9_schedule_75 rfl rfl (by decide) (by decide) rfl (Nat.le_of_ble_eq_true rfl) ?_
      show sm_W _ _ _ _ _ 78 [.ref 62, .ref 3, .int v2, .int (m.1 63 (v2).toNatClampNeg)] [.int r10, .int (v2 + (1 : Int32)), .ref 64] (sm_hp (sm_w1 m 65 (v2 + (1 : Int32)).toNatClampNeg ((m.1 65 (v2).toNatClampNeg) + r6)))
      replace hf := sm_ck hf
      obtain ⟨q11, hf⟩ := hf
      refine w_blk bX9_schedule_78 [.ref 62, .ref 3, .int (v2 + (1 : Int32)), .int (m.1 63 (v2).toNatClampNeg)] [] (sm_hp (sm_w1 (sm_w1 m 65 (v2 + (1 : Int32)).toNatClampNeg ((m.1 65 (v2).toNatClampNeg) + r6)) 64 (v2 + (1 : Int32)).toNatClampNeg r10)) [((v2 + (1 : Int32)), 30)] rfl (sm_oc q11 (sm_on)) ?_
      refine w_goto (tgt := 19) dX9_schedule_82 rfl ?_
      refine w_wk [true, true, true, false] ?_
      exact ih (v2 + (1 : Int32)) (sm_w1 (sm_w1 m 65 (v2 + (1 : Int32)).toNatClampNeg ((m.1 65 (v2).toNatClampNeg) + r6)) 64 (v2 + (1 : Int32)).toNatClampNeg r10) r hf
set_option maxRecDepth 10000 in
theorem tX9_schedule_i1 {l : Launch} {al : Bool} (m : sm_S) (r : Int32 × sm_S) (hf : fX9_schedule_i1 m = some r) : sm_Rt l mX9_schedule 2 0 0 al al [.ref 62, .ref 3] (sm_hp m) (some (.int r.1), sm_hp r.2) := by
  refine sm_Rt.ofW (L := [.ref 62, .ref 3, .retAddr 0, .retAddr 0]) (by decide) (Nat.le_of_ble_eq_true rfl) rfl ?_
  unfold fX9_schedule_i1 at hf
  refine w_blk bX9_schedule_0 [.ref 62, .ref 3, .int (0 : Int32), .retAddr 0] [] (sm_hp (sm_w1 (sm_w1 m 64 0 (m.1 62 1)) 65 0 (0 : Int32))) [((0 : Int32), 30), ((0 : Int32), 30)] rfl (sm_oc (by decide) (sm_oc (by decide) (sm_on))) ?_
  exact tX9_schedule_i1_19 sm_fu (0 : Int32) (sm_w1 (sm_w1 m 64 0 (m.1 62 1)) 65 0 (0 : Int32)) r hf
set_option maxRecDepth 10000 in
theorem tX9_bits_i1_4 {l : Launch} {al : Bool} : ∀ (n : Nat) (v1 : Int32) (v2 : Int32) (m : sm_S) (r : Int32), fX9_bits_i1_4 n v1 v2 m = some r → sm_W l mX9_bits 1 al (some (.int r), sm_hp m) 4 [.ref 62, .int v1, .int v2] [] (sm_hp m) := by
  intro n
  induction n with
  | zero =>
    intro v1 v2 m r hf
    unfold fX9_bits_i1_4 at hf
    cases hf
  | succ n ih =>
    intro v1 v2 m r hf
    unfold fX9_bits_i1_4 at hf
    refine w_blk bX9_bits_4 [.ref 62, .int v1, .int v2] [.int (m.1 62 2), .int v2] (sm_hp m) [] rfl (sm_on) ?_
    refine w_icmp_ge (tgt := 29) dX9_bits_9 rfl (fun hc => ?_) (fun hc => ?_)
    · replace hf := sm_ift hc hf
      refine w_blk bX9_bits_29 [.ref 62, .int v1, .int v2] [.int v1] (sm_hp m) [] rfl (sm_on) ?_
      obtain rfl := Option.some.inj hf
      exact w_reti dX9_bits_30 rfl rfl
    · replace hf := sm_iff hc hf
      replace hf := sm_ck hf
      obtain ⟨q1, hf⟩ := hf
      refine w_blk bX9_bits_12 [.ref 62, .int (v1 ||| ((1 : Int32) <<< ((m.1 63 (v2).toNatClampNeg) &&& 31))), .int (v2 + (1 : Int32))] [] (sm_hp m) [(v2, 30)] rfl (sm_oc q1 (sm_on)) ?_
      refine w_goto (tgt := 4) dX9_bits_26 rfl ?_
      exact ih (v1 ||| ((1 : Int32) <<< ((m.1 63 (v2).toNatClampNeg) &&& 31))) (v2 + (1 : Int32)) m r hf
set_option maxRecDepth 10000 in
theorem tX9_bits_i1 {l : Launch} {al : Bool} (m : sm_S) (r : Int32) (hf : fX9_bits_i1 m = some r) : sm_Rt l mX9_bits 1 0 0 al al [.ref 62] (sm_hp m) (some (.int r), sm_hp m) := by
  refine sm_Rt.ofW (L := [.ref 62, .retAddr 0, .retAddr 0]) (by decide) (Nat.le_of_ble_eq_true rfl) rfl ?_
  unfold fX9_bits_i1 at hf
  refine w_blk bX9_bits_0 [.ref 62, .int (0 : Int32), .int (0 : Int32)] [] (sm_hp m) [] rfl (sm_on) ?_
  exact tX9_bits_i1_4 sm_fu (0 : Int32) (0 : Int32) m r hf
set_option maxRecDepth 10000 in
theorem tX11_tour {l : Launch} {al : Bool} (x1 : Int32) (m : sm_S) (r : Int32 × sm_S) (hf : fX11_tour x1 m = some r) : sm_Rt l mX11_tour 3 0 0 al al [.ref 0, .int x1] (sm_hp m) (some (.int r.1), sm_hp r.2) := by
  refine sm_Rt.ofW (L := [.ref 0, .int x1, .retAddr 0, .retAddr 0, .retAddr 0, .retAddr 0]) (by decide) (Nat.le_of_ble_eq_true rfl) rfl ?_
  unfold fX11_tour at hf
  refine w_blk bX11_tour_0 [.ref 0, .int x1, .int (m.1 1 1), .retAddr 0, .retAddr 0, .retAddr 0] [.int x1] (sm_hp (sm_w1 m 1 1 (0 : Int32))) [] rfl (sm_on) ?_
  refine w_if_lt (tgt := 25) dX11_tour_17 rfl (fun hc => ?_) (fun hc => ?_)
  · replace hf := sm_ift hc hf
    refine w_blk bX11_tour_25 [.ref 0, .int x1, .int (m.1 1 1), .retAddr 0, .retAddr 0, .retAddr 0] [.int (-100 : Int32)] (sm_hp (sm_w1 m 1 1 (0 : Int32))) [] rfl (sm_on) ?_
    obtain rfl := Option.some.inj hf
    exact w_reti dX11_tour_27 rfl rfl
  · replace hf := sm_iff hc hf
    refine w_blk bX11_tour_20 [.ref 0, .int x1, .int (m.1 1 1), .retAddr 0, .retAddr 0, .retAddr 0] [.int (2 : Int32), .int x1] (sm_hp (sm_w1 m 1 1 (0 : Int32))) [] rfl (sm_on) ?_
    refine w_icmp_lt (tgt := 28) dX11_tour_22 rfl (fun hc => ?_) (fun hc => ?_)
    · replace hf := sm_ift hc hf
      refine w_blk bX11_tour_28 [.ref 0, .int x1, .int (m.1 1 1), .retAddr 0, .retAddr 0, .retAddr 0] [.int (m.1 1 1), .ref 2, .ref 3] (sm_hp (sm_w1 m 1 1 (0 : Int32))) [] rfl (sm_on) ?_
      replace hf := sm_bd hf
      obtain ⟨r2, q1, hf⟩ := hf
      refine w_callS [.ref 3, .ref 2, .int (m.1 1 1)] [] (tX9_firstBad (m.1 1 1) (sm_w1 m 1 1 (0 : Int32)) r2 q1) (csX11_208 rfl) dX11_tour_40 rfl rfl (by decide) (by decide) (Nat.le_of_ble_eq_true rfl) ?_
      show sm_W _ _ _ _ _ 43 [.ref 0, .int x1, .int (m.1 1 1), .retAddr 0, .retAddr 0, .retAddr 0] [.int r2] (sm_hp (sm_w1 m 1 1 (0 : Int32)))
      refine w_blk bX11_tour_43 [.ref 0, .int x1, .int (m.1 1 1), .int r2, .retAddr 0, .retAddr 0] [.int r2] (sm_hp (sm_w1 m 1 1 (0 : Int32))) [] rfl (sm_on) ?_
      refine w_if_lt (tgt := 52) dX11_tour_45 rfl (fun hc => ?_) (fun hc => ?_)
      · replace hf := sm_ift hc hf
        by_cases hc14 : x1 = (0 : Int32)
        · replace hf := sm_ift hc14 hf
          subst hc14
          refine w_blk bX11_tour_52 [.ref 0, .int (0 : Int32), .int (m.1 1 1), .int r2, .ref 58, .retAddr 0] [.int (m.1 1 1), .ref 2, .ref 58] (sm_hp (sm_w1 m 1 1 (0 : Int32))) [((0 : Int32), 2)] rfl (sm_oc (by decide) (sm_on)) ?_
          replace hf := sm_bd hf
          obtain ⟨m4, q3, hf⟩ := hf
          refine w_callV [.ref 2, .int (m.1 1 1)] [] (tX9_lay (m.1 1 1) (sm_w1 m 1 1 (0 : Int32)) m4 q3) (cvX11_212 rfl) dX11_tour_70 rfl rfl (by decide) (by decide) rfl (Nat.le_of_ble_eq_true rfl) ?_
          show sm_W _ _ _ _ _ 73 [.ref 0, .int (0 : Int32), .int (m.1 1 1), .int r2, .ref 58, .retAddr 0] [] (sm_hp m4)
          refine w_blk bX11_tour_73 [.ref 0, .int (0 : Int32), .int (m.1 1 1), .int r2, .ref 58, .retAddr 0] [.ref 3, .ref 58] (sm_hp m4) [] rfl (sm_on) ?_
          replace hf := sm_bd hf
          obtain ⟨r6, q5, hf⟩ := hf
          refine w_callV [.ref 3] [] (tX9_schedule m4 r6 q5) (cvX11_216 rfl) dX11_tour_79 rfl rfl (by decide) (by decide) rfl (Nat.le_of_ble_eq_true rfl) ?_
          show sm_W _ _ _ _ _ 82 [.ref 0, .int (0 : Int32), .int (m.1 1 1), .int r2, .ref 58, .retAddr 0] [.int r6.1] (sm_hp r6.2)
          replace hf := sm_ck hf
          obtain ⟨q7, hf⟩ := hf
          refine w_blk bX11_tour_82 [.ref 0, .int (0 : Int32), .int (m.1 1 1), .int r2, .ref 58, .int r6.1] [.int (r6.2.1 60 (r6.2.1 58 2).toNatClampNeg), .ref 14] (sm_hp r6.2) [((r6.2.1 58 2), 30)] rfl (sm_oc q7 (sm_on)) ?_
          replace hf := sm_bd hf
          obtain ⟨m9, q8, hf⟩ := hf
          refine w_callV [.int (r6.2.1 60 (r6.2.1 58 2).toNatClampNeg)] [] (tX5_tell (r6.2.1 60 (r6.2.1 58 2).toNatClampNeg) r6.2 m9 q8) (cvX11_224 rfl) dX11_tour_99 rfl rfl (by decide) (by decide) rfl (Nat.le_of_ble_eq_true rfl) ?_
          show sm_W _ _ _ _ _ 102 [.ref 0, .int (0 : Int32), .int (m.1 1 1), .int r2, .ref 58, .int r6.1] [] (sm_hp m9)
          refine w_blk bX11_tour_102 [.ref 0, .int (0 : Int32), .int (m.1 1 1), .int r2, .ref 58, .int r6.1] [.ref 58, .ref 14] (sm_hp m9) [] rfl (sm_on) ?_
          replace hf := sm_bd hf
          obtain ⟨r11, q10, hf⟩ := hf
          refine w_callV [] [.ref 14] (tX9_bits m9 r11 q10) (cvX11_227 rfl) dX11_tour_108 rfl rfl (by decide) (by decide) rfl (Nat.le_of_ble_eq_true rfl) ?_
          show sm_W _ _ _ _ _ 111 [.ref 0, .int (0 : Int32), .int (m.1 1 1), .int r2, .ref 58, .int r6.1] [.int r11, .ref 14] (sm_hp m9)
          replace hf := sm_bd hf
          obtain ⟨m13, q12, hf⟩ := hf
          refine w_callV [.int r11] [] (tX5_add r11 m9 m13 q12) (cvX11_231 rfl) dX11_tour_111 rfl rfl (by decide) (by decide) rfl (Nat.le_of_ble_eq_true rfl) ?_
          show sm_W _ _ _ _ _ 114 [.ref 0, .int (0 : Int32), .int (m.1 1 1), .int r2, .ref 58, .int r6.1] [] (sm_hp m13)
          refine w_blk bX11_tour_114 [.ref 0, .int (0 : Int32), .int (m.1 1 1), .int r2, .ref 58, .int r6.1] [.int r6.1] (sm_hp m13) [] rfl (sm_on) ?_
          obtain rfl := Option.some.inj hf
          exact w_reti dX11_tour_116 rfl rfl
        · replace hf := sm_iff hc14 hf
          by_cases hc26 : x1 = (1 : Int32)
          · replace hf := sm_ift hc26 hf
            subst hc26
            refine w_blk bX11_tour_52 [.ref 0, .int (1 : Int32), .int (m.1 1 1), .int r2, .ref 62, .retAddr 0] [.int (m.1 1 1), .ref 2, .ref 62] (sm_hp (sm_w1 m 1 1 (0 : Int32))) [((1 : Int32), 2)] rfl (sm_oc (by decide) (sm_on)) ?_
            replace hf := sm_bd hf
            obtain ⟨m16, q15, hf⟩ := hf
            refine w_callV [.ref 2, .int (m.1 1 1)] [] (tX9_lay_i1 (m.1 1 1) (sm_w1 m 1 1 (0 : Int32)) m16 q15) (cvX11_212 rfl) dX11_tour_70 rfl rfl (by decide) (by decide) rfl (Nat.le_of_ble_eq_true rfl) ?_
            show sm_W _ _ _ _ _ 73 [.ref 0, .int (1 : Int32), .int (m.1 1 1), .int r2, .ref 62, .retAddr 0] [] (sm_hp m16)
            refine w_blk bX11_tour_73 [.ref 0, .int (1 : Int32), .int (m.1 1 1), .int r2, .ref 62, .retAddr 0] [.ref 3, .ref 62] (sm_hp m16) [] rfl (sm_on) ?_
            replace hf := sm_bd hf
            obtain ⟨r18, q17, hf⟩ := hf
            refine w_callV [.ref 3] [] (tX9_schedule_i1 m16 r18 q17) (cvX11_216 rfl) dX11_tour_79 rfl rfl (by decide) (by decide) rfl (Nat.le_of_ble_eq_true rfl) ?_
            show sm_W _ _ _ _ _ 82 [.ref 0, .int (1 : Int32), .int (m.1 1 1), .int r2, .ref 62, .retAddr 0] [.int r18.1] (sm_hp r18.2)
            replace hf := sm_ck hf
            obtain ⟨q19, hf⟩ := hf
            refine w_blk bX11_tour_82 [.ref 0, .int (1 : Int32), .int (m.1 1 1), .int r2, .ref 62, .int r18.1] [.int (r18.2.1 64 (r18.2.1 62 2).toNatClampNeg), .ref 14] (sm_hp r18.2) [((r18.2.1 62 2), 30)] rfl (sm_oc q19 (sm_on)) ?_
            replace hf := sm_bd hf
            obtain ⟨m21, q20, hf⟩ := hf
            refine w_callV [.int (r18.2.1 64 (r18.2.1 62 2).toNatClampNeg)] [] (tX5_tell (r18.2.1 64 (r18.2.1 62 2).toNatClampNeg) r18.2 m21 q20) (cvX11_224 rfl) dX11_tour_99 rfl rfl (by decide) (by decide) rfl (Nat.le_of_ble_eq_true rfl) ?_
            show sm_W _ _ _ _ _ 102 [.ref 0, .int (1 : Int32), .int (m.1 1 1), .int r2, .ref 62, .int r18.1] [] (sm_hp m21)
            refine w_blk bX11_tour_102 [.ref 0, .int (1 : Int32), .int (m.1 1 1), .int r2, .ref 62, .int r18.1] [.ref 62, .ref 14] (sm_hp m21) [] rfl (sm_on) ?_
            replace hf := sm_bd hf
            obtain ⟨r23, q22, hf⟩ := hf
            refine w_callV [] [.ref 14] (tX9_bits_i1 m21 r23 q22) (cvX11_227 rfl) dX11_tour_108 rfl rfl (by decide) (by decide) rfl (Nat.le_of_ble_eq_true rfl) ?_
            show sm_W _ _ _ _ _ 111 [.ref 0, .int (1 : Int32), .int (m.1 1 1), .int r2, .ref 62, .int r18.1] [.int r23, .ref 14] (sm_hp m21)
            replace hf := sm_bd hf
            obtain ⟨m25, q24, hf⟩ := hf
            refine w_callV [.int r23] [] (tX5_add r23 m21 m25 q24) (cvX11_231 rfl) dX11_tour_111 rfl rfl (by decide) (by decide) rfl (Nat.le_of_ble_eq_true rfl) ?_
            show sm_W _ _ _ _ _ 114 [.ref 0, .int (1 : Int32), .int (m.1 1 1), .int r2, .ref 62, .int r18.1] [] (sm_hp m25)
            refine w_blk bX11_tour_114 [.ref 0, .int (1 : Int32), .int (m.1 1 1), .int r2, .ref 62, .int r18.1] [.int r18.1] (sm_hp m25) [] rfl (sm_on) ?_
            obtain rfl := Option.some.inj hf
            exact w_reti dX11_tour_116 rfl rfl
          · replace hf := sm_iff hc26 hf
            cases hf
      · replace hf := sm_iff hc hf
        refine w_blk bX11_tour_48 [.ref 0, .int x1, .int (m.1 1 1), .int r2, .retAddr 0, .retAddr 0] [.int ((-1 : Int32) - r2)] (sm_hp (sm_w1 m 1 1 (0 : Int32))) [] rfl (sm_on) ?_
        obtain rfl := Option.some.inj hf
        exact w_reti dX11_tour_51 rfl rfl
    · replace hf := sm_iff hc hf
      refine w_blk bX11_tour_25 [.ref 0, .int x1, .int (m.1 1 1), .retAddr 0, .retAddr 0, .retAddr 0] [.int (-100 : Int32)] (sm_hp (sm_w1 m 1 1 (0 : Int32))) [] rfl (sm_on) ?_
      obtain rfl := Option.some.inj hf
      exact w_reti dX11_tour_27 rfl rfl
set_option maxRecDepth 10000 in
theorem tX6_copyFrom_18 {l : Launch} {al : Bool} : ∀ (n : Nat) (v2 : Int32) (m : sm_S) (r : sm_S), fX6_copyFrom_18 n v2 m = some r → sm_W l mX6_copyFrom 1 al (none, sm_hp r) 18 [.ref 18, .ref 16, .int v2] [] (sm_hp m) := by
  intro n
  induction n with
  | zero =>
    intro v2 m r hf
    unfold fX6_copyFrom_18 at hf
    cases hf
  | succ n ih =>
    intro v2 m r hf
    unfold fX6_copyFrom_18 at hf
    refine w_blk bX6_copyFrom_18 [.ref 18, .ref 16, .int v2] [.int (14 : Int32), .int v2] (sm_hp m) [] rfl (sm_on) ?_
    refine w_icmp_ge (tgt := 42) dX6_copyFrom_21 rfl (fun hc => ?_) (fun hc => ?_)
    · replace hf := sm_ift hc hf
      obtain rfl := Option.some.inj hf
      exact w_retv dX6_copyFrom_42 rfl
    · replace hf := sm_iff hc hf
      replace hf := sm_ck hf
      obtain ⟨q1, hf⟩ := hf
      replace hf := sm_ck hf
      obtain ⟨q2, hf⟩ := hf
      refine w_blk bX6_copyFrom_24 [.ref 18, .ref 16, .int (v2 + (1 : Int32))] [] (sm_hp (sm_w1 m 19 (v2).toNatClampNeg (m.1 17 (v2).toNatClampNeg))) [(v2, 14), (v2, 14)] rfl (sm_oc q1 (sm_oc q2 (sm_on))) ?_
      refine w_goto (tgt := 18) dX6_copyFrom_39 rfl ?_
      exact ih (v2 + (1 : Int32)) (sm_w1 m 19 (v2).toNatClampNeg (m.1 17 (v2).toNatClampNeg)) r hf
set_option maxRecDepth 10000 in
theorem tX6_copyFrom {l : Launch} {al : Bool} (m : sm_S) (r : sm_S) (hf : fX6_copyFrom m = some r) : sm_Rt l mX6_copyFrom 1 0 0 al al [.ref 18, .ref 16] (sm_hp m) (none, sm_hp r) := by
  refine sm_Rt.ofW (L := [.ref 18, .ref 16, .retAddr 0]) (by decide) (Nat.le_of_ble_eq_true rfl) rfl ?_
  unfold fX6_copyFrom at hf
  refine w_blk bX6_copyFrom_0 [.ref 18, .ref 16, .int (0 : Int32)] [] (sm_hp (sm_w1 (sm_w1 m 18 0 (m.1 16 0)) 18 1 (m.1 16 1))) [] rfl (sm_on) ?_
  exact tX6_copyFrom_18 sm_fu (0 : Int32) (sm_w1 (sm_w1 m 18 0 (m.1 16 0)) 18 1 (m.1 16 1)) r hf
set_option maxRecDepth 10000 in
theorem tX6_day_i1 {l : Launch} {al : Bool} (m : sm_S) (r : Int32) (hf : fX6_day_i1 m = some r) : sm_Rt l mX6_day 1 0 0 al al [.ref 18] (sm_hp m) (some (.int r), sm_hp m) := by
  refine sm_Rt.ofW (L := [.ref 18]) (by decide) (Nat.le_of_ble_eq_true rfl) rfl ?_
  unfold fX6_day_i1 at hf
  refine w_blk bX6_day_0 [.ref 18] [.int ((m.1 18 1) / (60 : Int32))] (sm_hp m) [] rfl (sm_on) ?_
  obtain rfl := Option.some.inj hf
  exact w_reti dX6_day_7 rfl rfl
set_option maxRecDepth 10000 in
theorem tX6_isFresh_i1 {l : Launch} {al : Bool} (x1 : Int32) (m : sm_S) (r : Int32) (hf : fX6_isFresh_i1 x1 m = some r) : sm_Rt l mX6_isFresh 2 0 0 al al [.ref 18, .ref 3, .int x1] (sm_hp m) (some (.int r), sm_hp m) := by
  refine sm_Rt.ofW (L := [.ref 18, .ref 3, .int x1]) (by decide) (Nat.le_of_ble_eq_true rfl) rfl ?_
  unfold fX6_isFresh_i1 at hf
  replace hf := sm_ck hf
  obtain ⟨q1, hf⟩ := hf
  refine w_blk bX6_isFresh_0 [.ref 18, .ref 3, .int x1] [.int (-1 : Int32), .int (m.1 19 (x1).toNatClampNeg)] (sm_hp m) [(x1, 14)] rfl (sm_oc q1 (sm_on)) ?_
  refine w_icmp_eq (tgt := 28) dX6_isFresh_7 rfl (fun hc => ?_) (fun hc => ?_)
  · replace hf := sm_ift hc hf
    refine w_blk bX6_isFresh_28 [.ref 18, .ref 3, .int x1] [.int (1 : Int32)] (sm_hp m) [] rfl (sm_on) ?_
    refine w_goto (tgt := 33) dX6_isFresh_29 rfl ?_
    obtain rfl := Option.some.inj hf
    exact w_reti dX6_isFresh_33 rfl sm_nb1
  · replace hf := sm_iff hc hf
    refine w_blk bX6_isFresh_10 [.ref 18, .ref 3, .int x1] [.ref 18] (sm_hp m) [] rfl (sm_on) ?_
    replace hf := sm_bd hf
    obtain ⟨r3, q2, hf⟩ := hf
    refine w_callV [] [] (tX6_day_i1 m r3 q2) (cvX6_22 rfl) dX6_isFresh_11 rfl rfl (by decide) (by decide) rfl (Nat.le_of_ble_eq_true rfl) ?_
    show sm_W _ _ _ _ _ 14 [.ref 18, .ref 3, .int x1] [.int r3] (sm_hp m)
    replace hf := sm_ck hf
    obtain ⟨q4, hf⟩ := hf
    refine w_blk bX6_isFresh_14 [.ref 18, .ref 3, .int x1] [.int (m.1 3 2), .int (r3 - (m.1 19 (x1).toNatClampNeg))] (sm_hp m) [(x1, 14)] rfl (sm_oc q4 (sm_on)) ?_
    refine w_icmp_lt (tgt := 32) dX6_isFresh_25 rfl (fun hc => ?_) (fun hc => ?_)
    · replace hf := sm_ift hc hf
      refine w_blk bX6_isFresh_32 [.ref 18, .ref 3, .int x1] [.int (0 : Int32)] (sm_hp m) [] rfl (sm_on) ?_
      obtain rfl := Option.some.inj hf
      exact w_reti dX6_isFresh_33 rfl sm_nb0
    · replace hf := sm_iff hc hf
      refine w_blk bX6_isFresh_28 [.ref 18, .ref 3, .int x1] [.int (1 : Int32)] (sm_hp m) [] rfl (sm_on) ?_
      refine w_goto (tgt := 33) dX6_isFresh_29 rfl ?_
      obtain rfl := Option.some.inj hf
      exact w_reti dX6_isFresh_33 rfl sm_nb1
set_option maxRecDepth 10000 in
theorem tX6_isLight_i1 {l : Launch} {al : Bool} (m : sm_S) (r : Int32) (hf : fX6_isLight_i1 m = some r) : sm_Rt l mX6_isLight 1 0 0 al al [.ref 18] (sm_hp m) (some (.int r), sm_hp m) := by
  refine sm_Rt.ofW (L := [.ref 18]) (by decide) (Nat.le_of_ble_eq_true rfl) rfl ?_
  unfold fX6_isLight_i1 at hf
  refine w_blk bX6_isLight_0 [.ref 18] [.int (40 : Int32), .int ((m.1 18 1) - (m.1 18 1) / (60 : Int32) * (60 : Int32))] (sm_hp m) [] rfl (sm_on) ?_
  refine w_icmp_ge (tgt := 16) dX6_isLight_9 rfl (fun hc => ?_) (fun hc => ?_)
  · replace hf := sm_ift hc hf
    refine w_blk bX6_isLight_16 [.ref 18] [.int (0 : Int32)] (sm_hp m) [] rfl (sm_on) ?_
    obtain rfl := Option.some.inj hf
    exact w_reti dX6_isLight_17 rfl sm_nb0
  · replace hf := sm_iff hc hf
    refine w_blk bX6_isLight_12 [.ref 18] [.int (1 : Int32)] (sm_hp m) [] rfl (sm_on) ?_
    refine w_goto (tgt := 17) dX6_isLight_13 rfl ?_
    obtain rfl := Option.some.inj hf
    exact w_reti dX6_isLight_17 rfl sm_nb1
set_option maxRecDepth 10000 in
theorem tX6_whyNot_i1 {l : Launch} {al : Bool} (x1 : Int32) (m : sm_S) (r : Int32) (hf : fX6_whyNot_i1 x1 m = some r) : sm_Rt l mX6_whyNot 3 0 0 al al [.ref 18, .ref 3, .int x1] (sm_hp m) (some (.int r), sm_hp m) := by
  refine sm_Rt.ofW (L := [.ref 18, .ref 3, .int x1]) (by decide) (Nat.le_of_ble_eq_true rfl) rfl ?_
  unfold fX6_whyNot_i1 at hf
  refine w_blk bX6_whyNot_0 [.ref 18, .ref 3, .int x1] [.int (m.1 18 0), .int x1, .ref 3] (sm_hp m) [] rfl (sm_on) ?_
  replace hf := sm_bd hf
  obtain ⟨r2, q1, hf⟩ := hf
  refine w_callV [.int x1, .int (m.1 18 0)] [] (tX2_touches x1 (m.1 18 0) m r2 q1) (cvX6_31 rfl) dX6_whyNot_6 rfl rfl (by decide) (by decide) rfl (Nat.le_of_ble_eq_true rfl) ?_
  show sm_W _ _ _ _ _ 9 [.ref 18, .ref 3, .int x1] [.int r2] (sm_hp m)
  refine w_if_ne (tgt := 15) dX6_whyNot_9 rfl (fun hc => ?_) (fun hc => ?_)
  · replace hf := sm_iff hc hf
    refine w_blk bX6_whyNot_15 [.ref 18, .ref 3, .int x1] [.int x1, .ref 3, .ref 18] (sm_hp m) [] rfl (sm_on) ?_
    replace hf := sm_bd hf
    obtain ⟨r4, q3, hf⟩ := hf
    refine w_callV [.ref 3, .int x1] [] (tX6_isFresh_i1 x1 m r4 q3) (cvX6_35 rfl) dX6_whyNot_18 rfl rfl (by decide) (by decide) rfl (Nat.le_of_ble_eq_true rfl) ?_
    show sm_W _ _ _ _ _ 21 [.ref 18, .ref 3, .int x1] [.int r4] (sm_hp m)
    refine w_if_ne (tgt := 27) dX6_whyNot_21 rfl (fun hc => ?_) (fun hc => ?_)
    · replace hf := sm_iff hc hf
      replace hf := sm_ck hf
      obtain ⟨q5, hf⟩ := hf
      refine w_blk bX6_whyNot_27 [.ref 18, .ref 3, .int x1] [.int (m.1 13 (x1).toNatClampNeg)] (sm_hp m) [(x1, 14)] rfl (sm_oc q5 (sm_on)) ?_
      refine w_if_eq (tgt := 46) dX6_whyNot_33 rfl (fun hc => ?_) (fun hc => ?_)
      · replace hf := sm_ift hc hf
        refine w_blk bX6_whyNot_46 [.ref 18, .ref 3, .int x1] [.int (m.1 18 0), .int x1, .ref 3, .int (m.1 18 1)] (sm_hp m) [] rfl (sm_on) ?_
        replace hf := sm_bd hf
        obtain ⟨r7, q6, hf⟩ := hf
        refine w_callV [.int x1, .int (m.1 18 0)] [.int (m.1 18 1)] (tX2_minutesFrom x1 (m.1 18 0) m r7 q6) (cvX6_47 rfl) dX6_whyNot_56 rfl rfl (by decide) (by decide) rfl (Nat.le_of_ble_eq_true rfl) ?_
        show sm_W _ _ _ _ _ 59 [.ref 18, .ref 3, .int x1] [.int r7, .int (m.1 18 1)] (sm_hp m)
        refine w_blk bX6_whyNot_59 [.ref 18, .ref 3, .int x1] [.int (m.1 3 3), .int ((m.1 18 1) + r7)] (sm_hp m) [] rfl (sm_on) ?_
        refine w_icmp_le (tgt := 72) dX6_whyNot_64 rfl (fun hc => ?_) (fun hc => ?_)
        · replace hf := sm_ift hc hf
          refine w_blk bX6_whyNot_72 [.ref 18, .ref 3, .int x1] [.int (0 : Int32)] (sm_hp m) [] rfl (sm_on) ?_
          obtain rfl := Option.some.inj hf
          exact w_reti dX6_whyNot_73 rfl rfl
        · replace hf := sm_iff hc hf
          refine w_blk bX6_whyNot_67 [.ref 18, .ref 3, .int x1] [.int (-5 : Int32)] (sm_hp m) [] rfl (sm_on) ?_
          refine w_goto (tgt := 73) dX6_whyNot_69 rfl ?_
          obtain rfl := Option.some.inj hf
          exact w_reti dX6_whyNot_73 rfl rfl
      · replace hf := sm_iff hc hf
        refine w_blk bX6_whyNot_36 [.ref 18, .ref 3, .int x1] [.ref 18] (sm_hp m) [] rfl (sm_on) ?_
        replace hf := sm_bd hf
        obtain ⟨r9, q8, hf⟩ := hf
        refine w_callV [] [] (tX6_isLight_i1 m r9 q8) (cvX6_43 rfl) dX6_whyNot_37 rfl rfl (by decide) (by decide) rfl (Nat.le_of_ble_eq_true rfl) ?_
        show sm_W _ _ _ _ _ 40 [.ref 18, .ref 3, .int x1] [.int r9] (sm_hp m)
        refine w_if_ne (tgt := 46) dX6_whyNot_40 rfl (fun hc => ?_) (fun hc => ?_)
        · replace hf := sm_iff hc hf
          refine w_blk bX6_whyNot_46 [.ref 18, .ref 3, .int x1] [.int (m.1 18 0), .int x1, .ref 3, .int (m.1 18 1)] (sm_hp m) [] rfl (sm_on) ?_
          replace hf := sm_bd hf
          obtain ⟨r11, q10, hf⟩ := hf
          refine w_callV [.int x1, .int (m.1 18 0)] [.int (m.1 18 1)] (tX2_minutesFrom x1 (m.1 18 0) m r11 q10) (cvX6_47 rfl) dX6_whyNot_56 rfl rfl (by decide) (by decide) rfl (Nat.le_of_ble_eq_true rfl) ?_
          show sm_W _ _ _ _ _ 59 [.ref 18, .ref 3, .int x1] [.int r11, .int (m.1 18 1)] (sm_hp m)
          refine w_blk bX6_whyNot_59 [.ref 18, .ref 3, .int x1] [.int (m.1 3 3), .int ((m.1 18 1) + r11)] (sm_hp m) [] rfl (sm_on) ?_
          refine w_icmp_le (tgt := 72) dX6_whyNot_64 rfl (fun hc => ?_) (fun hc => ?_)
          · replace hf := sm_ift hc hf
            refine w_blk bX6_whyNot_72 [.ref 18, .ref 3, .int x1] [.int (0 : Int32)] (sm_hp m) [] rfl (sm_on) ?_
            obtain rfl := Option.some.inj hf
            exact w_reti dX6_whyNot_73 rfl rfl
          · replace hf := sm_iff hc hf
            refine w_blk bX6_whyNot_67 [.ref 18, .ref 3, .int x1] [.int (-5 : Int32)] (sm_hp m) [] rfl (sm_on) ?_
            refine w_goto (tgt := 73) dX6_whyNot_69 rfl ?_
            obtain rfl := Option.some.inj hf
            exact w_reti dX6_whyNot_73 rfl rfl
        · replace hf := sm_ift hc hf
          refine w_blk bX6_whyNot_43 [.ref 18, .ref 3, .int x1] [.int (-4 : Int32)] (sm_hp m) [] rfl (sm_on) ?_
          obtain rfl := Option.some.inj hf
          exact w_reti dX6_whyNot_45 rfl rfl
    · replace hf := sm_ift hc hf
      refine w_blk bX6_whyNot_24 [.ref 18, .ref 3, .int x1] [.int (-3 : Int32)] (sm_hp m) [] rfl (sm_on) ?_
      obtain rfl := Option.some.inj hf
      exact w_reti dX6_whyNot_26 rfl rfl
  · replace hf := sm_ift hc hf
    refine w_blk bX6_whyNot_12 [.ref 18, .ref 3, .int x1] [.int (-2 : Int32)] (sm_hp m) [] rfl (sm_on) ?_
    obtain rfl := Option.some.inj hf
    exact w_reti dX6_whyNot_14 rfl rfl
set_option maxRecDepth 10000 in
theorem tX6_step_i1 {l : Launch} {al : Bool} (x1 : Int32) (m : sm_S) (r : Int32 × sm_S) (hf : fX6_step_i1 x1 m = some r) : sm_Rt l mX6_step 2 0 0 al al [.ref 18, .ref 3, .int x1] (sm_hp m) (some (.int r.1), sm_hp r.2) := by
  refine sm_Rt.ofW (L := [.ref 18, .ref 3, .int x1, .retAddr 0]) (by decide) (Nat.le_of_ble_eq_true rfl) rfl ?_
  unfold fX6_step_i1 at hf
  refine w_blk bX6_step_0 [.ref 18, .ref 3, .int x1, .retAddr 0] [.int (m.1 18 0), .int x1, .ref 3] (sm_hp m) [] rfl (sm_on) ?_
  replace hf := sm_bd hf
  obtain ⟨r2, q1, hf⟩ := hf
  refine w_callV [.int x1, .int (m.1 18 0)] [] (tX2_minutesFrom x1 (m.1 18 0) m r2 q1) (cvX6_47 rfl) dX6_step_6 rfl rfl (by decide) (by decide) rfl (Nat.le_of_ble_eq_true rfl) ?_
  show sm_W _ _ _ _ _ 9 [.ref 18, .ref 3, .int x1, .retAddr 0] [.int r2] (sm_hp m)
  refine w_blk bX6_step_9 [.ref 18, .ref 3, .int x1, .int r2] [.ref 18, .int x1, .ref 19] (sm_hp m) [] rfl (sm_on) ?_
  replace hf := sm_bd hf
  obtain ⟨r4, q3, hf⟩ := hf
  refine w_callV [] [.int x1, .ref 19] (tX6_day_i1 m r4 q3) (cvX6_22 rfl) dX6_step_16 rfl rfl (by decide) (by decide) rfl (Nat.le_of_ble_eq_true rfl) ?_
  show sm_W _ _ _ _ _ 19 [.ref 18, .ref 3, .int x1, .int r2] [.int r4, .int x1, .ref 19] (sm_hp m)
  replace hf := sm_ck hf
  obtain ⟨q5, hf⟩ := hf
  refine w_blk bX6_step_19 [.ref 18, .ref 3, .int x1, .int r2] [.int (m.1 18 0), .int x1, .ref 3, .ref 18] (sm_hp (sm_w1 (sm_w1 m 19 (x1).toNatClampNeg r4) 18 1 ((m.1 18 1) + r2))) [(x1, 14)] rfl (sm_oc q5 (sm_on)) ?_
  replace hf := sm_bd hf
  obtain ⟨r7, q6, hf⟩ := hf
  refine w_callV [.int x1, .int (m.1 18 0)] [.ref 18] (tX2_otherEnd x1 (m.1 18 0) (sm_w1 (sm_w1 m 19 (x1).toNatClampNeg r4) 18 1 ((m.1 18 1) + r2)) r7 q6) (cvX6_54 rfl) dX6_step_37 rfl rfl (by decide) (by decide) rfl (Nat.le_of_ble_eq_true rfl) ?_
  show sm_W _ _ _ _ _ 40 [.ref 18, .ref 3, .int x1, .int r2] [.int r7, .ref 18] (sm_hp (sm_w1 (sm_w1 m 19 (x1).toNatClampNeg r4) 18 1 ((m.1 18 1) + r2)))
  refine w_blk bX6_step_40 [.ref 18, .ref 3, .int x1, .int r2] [.int r2] (sm_hp (sm_w1 (sm_w1 (sm_w1 m 19 (x1).toNatClampNeg r4) 18 1 ((m.1 18 1) + r2)) 18 0 r7)) [] rfl (sm_on) ?_
  obtain rfl := Option.some.inj hf
  exact w_reti dX6_step_44 rfl rfl
set_option maxRecDepth 10000 in
theorem tX11_look_61 {l : Launch} {al : Bool} : ∀ (n : Nat) (v3 : Int32) (v4 : Int32) (v5 : Int32) (v6 : Int32) (m : sm_S) (r : Int32 × sm_S), fX11_look_61 n v3 v4 v5 v6 m = some r → sm_W l mX11_look 4 al (some (.int r.1), sm_hp r.2) 61 [.ref 0, .retAddr 0, .ref 58, .int v3, .int v4, .int v5, .int v6, .retAddr 0] [] (sm_hp m) := by
  intro n
  induction n with
  | zero =>
    intro v3 v4 v5 v6 m r hf
    unfold fX11_look_61 at hf
    cases hf
  | succ n ih =>
    intro v3 v4 v5 v6 m r hf
    unfold fX11_look_61 at hf
    refine w_blk bX11_look_61 [.ref 0, .retAddr 0, .ref 58, .int v3, .int v4, .int v5, .int v6, .retAddr 0] [.int (m.1 58 2), .int v6] (sm_hp m) [] rfl (sm_on) ?_
    refine w_icmp_ge (tgt := 140) dX11_look_67 rfl (fun hc => ?_) (fun hc => ?_)
    · replace hf := sm_ift hc hf
      refine w_blk bX11_look_140 [.ref 0, .retAddr 0, .ref 58, .int v3, .int v4, .int v5, .int v6, .retAddr 0] [.int v5, .ref 14] (sm_hp m) [] rfl (sm_on) ?_
      replace hf := sm_bd hf
      obtain ⟨m4, q3, hf⟩ := hf
      refine w_callV [.int v5] [] (tX5_tell v5 m m4 q3) (cvX11_224 rfl) dX11_look_146 rfl rfl (by decide) (by decide) rfl (Nat.le_of_ble_eq_true rfl) ?_
      show sm_W _ _ _ _ _ 149 [.ref 0, .retAddr 0, .ref 58, .int v3, .int v4, .int v5, .int v6, .retAddr 0] [] (sm_hp m4)
      refine w_blk bX11_look_149 [.ref 0, .retAddr 0, .ref 58, .int v3, .int v4, .int v5, .int v6, .retAddr 0] [.int ((m4.1 18 1) - (m4.1 16 1)), .ref 14] (sm_hp m4) [] rfl (sm_on) ?_
      replace hf := sm_bd hf
      obtain ⟨m6, q5, hf⟩ := hf
      refine w_callV [.int ((m4.1 18 1) - (m4.1 16 1))] [] (tX5_add ((m4.1 18 1) - (m4.1 16 1)) m4 m6 q5) (cvX11_231 rfl) dX11_look_168 rfl rfl (by decide) (by decide) rfl (Nat.le_of_ble_eq_true rfl) ?_
      show sm_W _ _ _ _ _ 171 [.ref 0, .retAddr 0, .ref 58, .int v3, .int v4, .int v5, .int v6, .retAddr 0] [] (sm_hp m6)
      refine w_blk bX11_look_171 [.ref 0, .retAddr 0, .ref 58, .int v3, .int v4, .int v5, .int v6, .retAddr 0] [.int v3, .ref 14] (sm_hp m6) [] rfl (sm_on) ?_
      replace hf := sm_bd hf
      obtain ⟨m8, q7, hf⟩ := hf
      refine w_callV [.int v3] [] (tX5_add v3 m6 m8 q7) (cvX11_231 rfl) dX11_look_176 rfl rfl (by decide) (by decide) rfl (Nat.le_of_ble_eq_true rfl) ?_
      show sm_W _ _ _ _ _ 179 [.ref 0, .retAddr 0, .ref 58, .int v3, .int v4, .int v5, .int v6, .retAddr 0] [] (sm_hp m8)
      refine w_blk bX11_look_179 [.ref 0, .retAddr 0, .ref 58, .int v3, .int v4, .int v5, .int v6, .retAddr 0] [.int v5] (sm_hp m8) [] rfl (sm_on) ?_
      refine w_if_ne (tgt := 189) dX11_look_181 rfl (fun hc => ?_) (fun hc => ?_)
      · replace hf := sm_iff hc hf
        refine w_blk bX11_look_189 [.ref 0, .retAddr 0, .ref 58, .int v3, .int v4, .int v5, .int v6, .retAddr 0] [.int v4] (sm_hp m8) [] rfl (sm_on) ?_
        obtain rfl := Option.some.inj hf
        exact w_reti dX11_look_191 rfl rfl
      · replace hf := sm_ift hc hf
        refine w_blk bX11_look_184 [.ref 0, .retAddr 0, .ref 58, .int v3, .int v4, .int v5, .int v6, .retAddr 0] [.int (-2 : Int32)] (sm_hp m8) [] rfl (sm_on) ?_
        refine w_goto (tgt := 191) dX11_look_186 rfl ?_
        obtain rfl := Option.some.inj hf
        exact w_reti dX11_look_191 rfl rfl
    · replace hf := sm_iff hc hf
      refine w_blk bX11_look_70 [.ref 0, .retAddr 0, .ref 58, .int v3, .int v4, .int v5, .int v6, .retAddr 0] [.int v5] (sm_hp m) [] rfl (sm_on) ?_
      refine w_if_ne (tgt := 140) dX11_look_72 rfl (fun hc => ?_) (fun hc => ?_)
      · replace hf := sm_iff hc hf
        refine w_blk bX11_look_140 [.ref 0, .retAddr 0, .ref 58, .int v3, .int v4, .int v5, .int v6, .retAddr 0] [.int v5, .ref 14] (sm_hp m) [] rfl (sm_on) ?_
        replace hf := sm_bd hf
        obtain ⟨m10, q9, hf⟩ := hf
        refine w_callV [.int v5] [] (tX5_tell v5 m m10 q9) (cvX11_224 rfl) dX11_look_146 rfl rfl (by decide) (by decide) rfl (Nat.le_of_ble_eq_true rfl) ?_
        show sm_W _ _ _ _ _ 149 [.ref 0, .retAddr 0, .ref 58, .int v3, .int v4, .int v5, .int v6, .retAddr 0] [] (sm_hp m10)
        refine w_blk bX11_look_149 [.ref 0, .retAddr 0, .ref 58, .int v3, .int v4, .int v5, .int v6, .retAddr 0] [.int ((m10.1 18 1) - (m10.1 16 1)), .ref 14] (sm_hp m10) [] rfl (sm_on) ?_
        replace hf := sm_bd hf
        obtain ⟨m12, q11, hf⟩ := hf
        refine w_callV [.int ((m10.1 18 1) - (m10.1 16 1))] [] (tX5_add ((m10.1 18 1) - (m10.1 16 1)) m10 m12 q11) (cvX11_231 rfl) dX11_look_168 rfl rfl (by decide) (by decide) rfl (Nat.le_of_ble_eq_true rfl) ?_
        show sm_W _ _ _ _ _ 171 [.ref 0, .retAddr 0, .ref 58, .int v3, .int v4, .int v5, .int v6, .retAddr 0] [] (sm_hp m12)
        refine w_blk bX11_look_171 [.ref 0, .retAddr 0, .ref 58, .int v3, .int v4, .int v5, .int v6, .retAddr 0] [.int v3, .ref 14] (sm_hp m12) [] rfl (sm_on) ?_
        replace hf := sm_bd hf
        obtain ⟨m14, q13, hf⟩ := hf
        refine w_callV [.int v3] [] (tX5_add v3 m12 m14 q13) (cvX11_231 rfl) dX11_look_176 rfl rfl (by decide) (by decide) rfl (Nat.le_of_ble_eq_true rfl) ?_
        show sm_W _ _ _ _ _ 179 [.ref 0, .retAddr 0, .ref 58, .int v3, .int v4, .int v5, .int v6, .retAddr 0] [] (sm_hp m14)
        refine w_blk bX11_look_179 [.ref 0, .retAddr 0, .ref 58, .int v3, .int v4, .int v5, .int v6, .retAddr 0] [.int v5] (sm_hp m14) [] rfl (sm_on) ?_
        refine w_if_ne (tgt := 189) dX11_look_181 rfl (fun hc => ?_) (fun hc => ?_)
        · replace hf := sm_iff hc hf
          refine w_blk bX11_look_189 [.ref 0, .retAddr 0, .ref 58, .int v3, .int v4, .int v5, .int v6, .retAddr 0] [.int v4] (sm_hp m14) [] rfl (sm_on) ?_
          obtain rfl := Option.some.inj hf
          exact w_reti dX11_look_191 rfl rfl
        · replace hf := sm_ift hc hf
          refine w_blk bX11_look_184 [.ref 0, .retAddr 0, .ref 58, .int v3, .int v4, .int v5, .int v6, .retAddr 0] [.int (-2 : Int32)] (sm_hp m14) [] rfl (sm_on) ?_
          refine w_goto (tgt := 191) dX11_look_186 rfl ?_
          obtain rfl := Option.some.inj hf
          exact w_reti dX11_look_191 rfl rfl
      · replace hf := sm_ift hc hf
        replace hf := sm_ck hf
        obtain ⟨q15, hf⟩ := hf
        refine w_blk bX11_look_75 [.ref 0, .retAddr 0, .ref 58, .int v3, .int v4, .int v5, .int v6, .int (m.1 59 (v6).toNatClampNeg)] [.int (m.1 59 (v6).toNatClampNeg), .ref 3, .ref 18] (sm_hp m) [(v6, 30)] rfl (sm_oc q15 (sm_on)) ?_
        replace hf := sm_bd hf
        obtain ⟨r17, q16, hf⟩ := hf
        refine w_callV [.ref 3, .int (m.1 59 (v6).toNatClampNeg)] [] (tX6_whyNot_i1 (m.1 59 (v6).toNatClampNeg) m r17 q16) (cvX11_182 rfl) dX11_look_94 rfl rfl (by decide) (by decide) rfl (Nat.le_of_ble_eq_true rfl) ?_
        show sm_W _ _ _ _ _ 97 [.ref 0, .retAddr 0, .ref 58, .int v3, .int v4, .int v5, .int v6, .int (m.1 59 (v6).toNatClampNeg)] [.int r17] (sm_hp m)
        refine w_blk bX11_look_97 [.ref 0, .retAddr 0, .ref 58, .int v3, .int v4, .int r17, .int v6, .int (m.1 59 (v6).toNatClampNeg)] [.int r17] (sm_hp m) [] rfl (sm_on) ?_
        refine w_if_ne (tgt := 134) dX11_look_101 rfl (fun hc => ?_) (fun hc => ?_)
        · replace hf := sm_iff hc hf
          refine w_blk bX11_look_134 [.ref 0, .retAddr 0, .ref 58, .int v3, .int v4, .int r17, .int (v6 + (1 : Int32)), .int (m.1 59 (v6).toNatClampNeg)] [] (sm_hp m) [] rfl (sm_on) ?_
          refine w_goto (tgt := 61) dX11_look_137 rfl ?_
          refine w_wk [true, false, true, true, true, true, true, false] ?_
          exact ih v3 v4 r17 (v6 + (1 : Int32)) m r hf
        · replace hf := sm_ift hc hf
          refine w_blk bX11_look_104 [.ref 0, .retAddr 0, .ref 58, .int v3, .int v4, .int r17, .int v6, .int (m.1 59 (v6).toNatClampNeg)] [.int (m.1 59 (v6).toNatClampNeg), .ref 3, .ref 18] (sm_hp m) [] rfl (sm_on) ?_
          replace hf := sm_bd hf
          obtain ⟨r19, q18, hf⟩ := hf
          refine w_callV [.ref 3, .int (m.1 59 (v6).toNatClampNeg)] [] (tX6_step_i1 (m.1 59 (v6).toNatClampNeg) m r19 q18) (cvX11_190 rfl) dX11_look_114 rfl rfl (by decide) (by decide) rfl (Nat.le_of_ble_eq_true rfl) ?_
          show sm_W _ _ _ _ _ 117 [.ref 0, .retAddr 0, .ref 58, .int v3, .int v4, .int r17, .int v6, .int (m.1 59 (v6).toNatClampNeg)] [.int r19.1] (sm_hp r19.2)
          replace hf := sm_ck hf
          obtain ⟨q20, hf⟩ := hf
          refine w_blk bX11_look_117 [.ref 0, .retAddr 0, .ref 58, .int (v3 + (r19.2.1 11 (m.1 59 (v6).toNatClampNeg).toNatClampNeg)), .int (v4 + (1 : Int32)), .int r17, .int v6, .int (m.1 59 (v6).toNatClampNeg)] [] (sm_hp r19.2) [((m.1 59 (v6).toNatClampNeg), 14)] rfl (sm_oc q20 (sm_on)) ?_
          refine w_blk bX11_look_134 [.ref 0, .retAddr 0, .ref 58, .int (v3 + (r19.2.1 11 (m.1 59 (v6).toNatClampNeg).toNatClampNeg)), .int (v4 + (1 : Int32)), .int r17, .int (v6 + (1 : Int32)), .int (m.1 59 (v6).toNatClampNeg)] [] (sm_hp r19.2) [] rfl (sm_on) ?_
          refine w_goto (tgt := 61) dX11_look_137 rfl ?_
          refine w_wk [true, false, true, true, true, true, true, false] ?_
          exact ih (v3 + (r19.2.1 11 (m.1 59 (v6).toNatClampNeg).toNatClampNeg)) (v4 + (1 : Int32)) r17 (v6 + (1 : Int32)) r19.2 r hf
set_option maxRecDepth 10000 in
theorem tX11_look_61_1 {l : Launch} {al : Bool} : ∀ (n : Nat) (v3 : Int32) (v4 : Int32) (v5 : Int32) (v6 : Int32) (m : sm_S) (r : Int32 × sm_S), fX11_look_61_1 n v3 v4 v5 v6 m = some r → sm_W l mX11_look 4 al (some (.int r.1), sm_hp r.2) 61 [.ref 0, .retAddr 0, .ref 62, .int v3, .int v4, .int v5, .int v6, .retAddr 0] [] (sm_hp m) := by
  intro n
  induction n with
  | zero =>
    intro v3 v4 v5 v6 m r hf
    unfold fX11_look_61_1 at hf
    cases hf
  | succ n ih =>
    intro v3 v4 v5 v6 m r hf
    unfold fX11_look_61_1 at hf
    refine w_blk bX11_look_61 [.ref 0, .retAddr 0, .ref 62, .int v3, .int v4, .int v5, .int v6, .retAddr 0] [.int (m.1 62 2), .int v6] (sm_hp m) [] rfl (sm_on) ?_
    refine w_icmp_ge (tgt := 140) dX11_look_67 rfl (fun hc => ?_) (fun hc => ?_)
    · replace hf := sm_ift hc hf
      refine w_blk bX11_look_140 [.ref 0, .retAddr 0, .ref 62, .int v3, .int v4, .int v5, .int v6, .retAddr 0] [.int v5, .ref 14] (sm_hp m) [] rfl (sm_on) ?_
      replace hf := sm_bd hf
      obtain ⟨m25, q24, hf⟩ := hf
      refine w_callV [.int v5] [] (tX5_tell v5 m m25 q24) (cvX11_224 rfl) dX11_look_146 rfl rfl (by decide) (by decide) rfl (Nat.le_of_ble_eq_true rfl) ?_
      show sm_W _ _ _ _ _ 149 [.ref 0, .retAddr 0, .ref 62, .int v3, .int v4, .int v5, .int v6, .retAddr 0] [] (sm_hp m25)
      refine w_blk bX11_look_149 [.ref 0, .retAddr 0, .ref 62, .int v3, .int v4, .int v5, .int v6, .retAddr 0] [.int ((m25.1 18 1) - (m25.1 16 1)), .ref 14] (sm_hp m25) [] rfl (sm_on) ?_
      replace hf := sm_bd hf
      obtain ⟨m27, q26, hf⟩ := hf
      refine w_callV [.int ((m25.1 18 1) - (m25.1 16 1))] [] (tX5_add ((m25.1 18 1) - (m25.1 16 1)) m25 m27 q26) (cvX11_231 rfl) dX11_look_168 rfl rfl (by decide) (by decide) rfl (Nat.le_of_ble_eq_true rfl) ?_
      show sm_W _ _ _ _ _ 171 [.ref 0, .retAddr 0, .ref 62, .int v3, .int v4, .int v5, .int v6, .retAddr 0] [] (sm_hp m27)
      refine w_blk bX11_look_171 [.ref 0, .retAddr 0, .ref 62, .int v3, .int v4, .int v5, .int v6, .retAddr 0] [.int v3, .ref 14] (sm_hp m27) [] rfl (sm_on) ?_
      replace hf := sm_bd hf
      obtain ⟨m29, q28, hf⟩ := hf
      refine w_callV [.int v3] [] (tX5_add v3 m27 m29 q28) (cvX11_231 rfl) dX11_look_176 rfl rfl (by decide) (by decide) rfl (Nat.le_of_ble_eq_true rfl) ?_
      show sm_W _ _ _ _ _ 179 [.ref 0, .retAddr 0, .ref 62, .int v3, .int v4, .int v5, .int v6, .retAddr 0] [] (sm_hp m29)
      refine w_blk bX11_look_179 [.ref 0, .retAddr 0, .ref 62, .int v3, .int v4, .int v5, .int v6, .retAddr 0] [.int v5] (sm_hp m29) [] rfl (sm_on) ?_
      refine w_if_ne (tgt := 189) dX11_look_181 rfl (fun hc => ?_) (fun hc => ?_)
      · replace hf := sm_iff hc hf
        refine w_blk bX11_look_189 [.ref 0, .retAddr 0, .ref 62, .int v3, .int v4, .int v5, .int v6, .retAddr 0] [.int v4] (sm_hp m29) [] rfl (sm_on) ?_
        obtain rfl := Option.some.inj hf
        exact w_reti dX11_look_191 rfl rfl
      · replace hf := sm_ift hc hf
        refine w_blk bX11_look_184 [.ref 0, .retAddr 0, .ref 62, .int v3, .int v4, .int v5, .int v6, .retAddr 0] [.int (-2 : Int32)] (sm_hp m29) [] rfl (sm_on) ?_
        refine w_goto (tgt := 191) dX11_look_186 rfl ?_
        obtain rfl := Option.some.inj hf
        exact w_reti dX11_look_191 rfl rfl
    · replace hf := sm_iff hc hf
      refine w_blk bX11_look_70 [.ref 0, .retAddr 0, .ref 62, .int v3, .int v4, .int v5, .int v6, .retAddr 0] [.int v5] (sm_hp m) [] rfl (sm_on) ?_
      refine w_if_ne (tgt := 140) dX11_look_72 rfl (fun hc => ?_) (fun hc => ?_)
      · replace hf := sm_iff hc hf
        refine w_blk bX11_look_140 [.ref 0, .retAddr 0, .ref 62, .int v3, .int v4, .int v5, .int v6, .retAddr 0] [.int v5, .ref 14] (sm_hp m) [] rfl (sm_on) ?_
        replace hf := sm_bd hf
        obtain ⟨m31, q30, hf⟩ := hf
        refine w_callV [.int v5] [] (tX5_tell v5 m m31 q30) (cvX11_224 rfl) dX11_look_146 rfl rfl (by decide) (by decide) rfl (Nat.le_of_ble_eq_true rfl) ?_
        show sm_W _ _ _ _ _ 149 [.ref 0, .retAddr 0, .ref 62, .int v3, .int v4, .int v5, .int v6, .retAddr 0] [] (sm_hp m31)
        refine w_blk bX11_look_149 [.ref 0, .retAddr 0, .ref 62, .int v3, .int v4, .int v5, .int v6, .retAddr 0] [.int ((m31.1 18 1) - (m31.1 16 1)), .ref 14] (sm_hp m31) [] rfl (sm_on) ?_
        replace hf := sm_bd hf
        obtain ⟨m33, q32, hf⟩ := hf
        refine w_callV [.int ((m31.1 18 1) - (m31.1 16 1))] [] (tX5_add ((m31.1 18 1) - (m31.1 16 1)) m31 m33 q32) (cvX11_231 rfl) dX11_look_168 rfl rfl (by decide) (by decide) rfl (Nat.le_of_ble_eq_true rfl) ?_
        show sm_W _ _ _ _ _ 171 [.ref 0, .retAddr 0, .ref 62, .int v3, .int v4, .int v5, .int v6, .retAddr 0] [] (sm_hp m33)
        refine w_blk bX11_look_171 [.ref 0, .retAddr 0, .ref 62, .int v3, .int v4, .int v5, .int v6, .retAddr 0] [.int v3, .ref 14] (sm_hp m33) [] rfl (sm_on) ?_
        replace hf := sm_bd hf
        obtain ⟨m35, q34, hf⟩ := hf
        refine w_callV [.int v3] [] (tX5_add v3 m33 m35 q34) (cvX11_231 rfl) dX11_look_176 rfl rfl (by decide) (by decide) rfl (Nat.le_of_ble_eq_true rfl) ?_
        show sm_W _ _ _ _ _ 179 [.ref 0, .retAddr 0, .ref 62, .int v3, .int v4, .int v5, .int v6, .retAddr 0] [] (sm_hp m35)
        refine w_blk bX11_look_179 [.ref 0, .retAddr 0, .ref 62, .int v3, .int v4, .int v5, .int v6, .retAddr 0] [.int v5] (sm_hp m35) [] rfl (sm_on) ?_
        refine w_if_ne (tgt := 189) dX11_look_181 rfl (fun hc => ?_) (fun hc => ?_)
        · replace hf := sm_iff hc hf
          refine w_blk bX11_look_189 [.ref 0, .retAddr 0, .ref 62, .int v3, .int v4, .int v5, .int v6, .retAddr 0] [.int v4] (sm_hp m35) [] rfl (sm_on) ?_
          obtain rfl := Option.some.inj hf
          exact w_reti dX11_look_191 rfl rfl
        · replace hf := sm_ift hc hf
          refine w_blk bX11_look_184 [.ref 0, .retAddr 0, .ref 62, .int v3, .int v4, .int v5, .int v6, .retAddr 0] [.int (-2 : Int32)] (sm_hp m35) [] rfl (sm_on) ?_
          refine w_goto (tgt := 191) dX11_look_186 rfl ?_
          obtain rfl := Option.some.inj hf
          exact w_reti dX11_look_191 rfl rfl
      · replace hf := sm_ift hc hf
        replace hf := sm_ck hf
        obtain ⟨q36, hf⟩ := hf
        refine w_blk bX11_look_75 [.ref 0, .retAddr 0, .ref 62, .int v3, .int v4, .int v5, .int v6, .int (m.1 63 (v6).toNatClampNeg)] [.int (m.1 63 (v6).toNatClampNeg), .ref 3, .ref 18] (sm_hp m) [(v6, 30)] rfl (sm_oc q36 (sm_on)) ?_
        replace hf := sm_bd hf
        obtain ⟨r38, q37, hf⟩ := hf
        refine w_callV [.ref 3, .int (m.1 63 (v6).toNatClampNeg)] [] (tX6_whyNot_i1 (m.1 63 (v6).toNatClampNeg) m r38 q37) (cvX11_182 rfl) dX11_look_94 rfl rfl (by decide) (by decide) rfl (Nat.le_of_ble_eq_true rfl) ?_
        show sm_W _ _ _ _ _ 97 [.ref 0, .retAddr 0, .ref 62, .int v3, .int v4, .int v5, .int v6, .int (m.1 63 (v6).toNatClampNeg)] [.int r38] (sm_hp m)
        refine w_blk bX11_look_97 [.ref 0, .retAddr 0, .ref 62, .int v3, .int v4, .int r38, .int v6, .int (m.1 63 (v6).toNatClampNeg)] [.int r38] (sm_hp m) [] rfl (sm_on) ?_
        refine w_if_ne (tgt := 134) dX11_look_101 rfl (fun hc => ?_) (fun hc => ?_)
        · replace hf := sm_iff hc hf
          refine w_blk bX11_look_134 [.ref 0, .retAddr 0, .ref 62, .int v3, .int v4, .int r38, .int (v6 + (1 : Int32)), .int (m.1 63 (v6).toNatClampNeg)] [] (sm_hp m) [] rfl (sm_on) ?_
          refine w_goto (tgt := 61) dX11_look_137 rfl ?_
          refine w_wk [true, false, true, true, true, true, true, false] ?_
          exact ih v3 v4 r38 (v6 + (1 : Int32)) m r hf
        · replace hf := sm_ift hc hf
          refine w_blk bX11_look_104 [.ref 0, .retAddr 0, .ref 62, .int v3, .int v4, .int r38, .int v6, .int (m.1 63 (v6).toNatClampNeg)] [.int (m.1 63 (v6).toNatClampNeg), .ref 3, .ref 18] (sm_hp m) [] rfl (sm_on) ?_
          replace hf := sm_bd hf
          obtain ⟨r40, q39, hf⟩ := hf
          refine w_callV [.ref 3, .int (m.1 63 (v6).toNatClampNeg)] [] (tX6_step_i1 (m.1 63 (v6).toNatClampNeg) m r40 q39) (cvX11_190 rfl) dX11_look_114 rfl rfl (by decide) (by decide) rfl (Nat.le_of_ble_eq_true rfl) ?_
          show sm_W _ _ _ _ _ 117 [.ref 0, .retAddr 0, .ref 62, .int v3, .int v4, .int r38, .int v6, .int (m.1 63 (v6).toNatClampNeg)] [.int r40.1] (sm_hp r40.2)
          replace hf := sm_ck hf
          obtain ⟨q41, hf⟩ := hf
          refine w_blk bX11_look_117 [.ref 0, .retAddr 0, .ref 62, .int (v3 + (r40.2.1 11 (m.1 63 (v6).toNatClampNeg).toNatClampNeg)), .int (v4 + (1 : Int32)), .int r38, .int v6, .int (m.1 63 (v6).toNatClampNeg)] [] (sm_hp r40.2) [((m.1 63 (v6).toNatClampNeg), 14)] rfl (sm_oc q41 (sm_on)) ?_
          refine w_blk bX11_look_134 [.ref 0, .retAddr 0, .ref 62, .int (v3 + (r40.2.1 11 (m.1 63 (v6).toNatClampNeg).toNatClampNeg)), .int (v4 + (1 : Int32)), .int r38, .int (v6 + (1 : Int32)), .int (m.1 63 (v6).toNatClampNeg)] [] (sm_hp r40.2) [] rfl (sm_on) ?_
          refine w_goto (tgt := 61) dX11_look_137 rfl ?_
          refine w_wk [true, false, true, true, true, true, true, false] ?_
          exact ih (v3 + (r40.2.1 11 (m.1 63 (v6).toNatClampNeg).toNatClampNeg)) (v4 + (1 : Int32)) r38 (v6 + (1 : Int32)) r40.2 r hf
set_option maxRecDepth 10000 in
theorem tX11_look {l : Launch} {al : Bool} (x1 : Int32) (m : sm_S) (r : Int32 × sm_S) (hf : fX11_look x1 m = some r) : sm_Rt l mX11_look 4 0 0 al al [.ref 0, .int x1] (sm_hp m) (some (.int r.1), sm_hp r.2) := by
  refine sm_Rt.ofW (L := [.ref 0, .int x1, .retAddr 0, .retAddr 0, .retAddr 0, .retAddr 0, .retAddr 0, .retAddr 0]) (by decide) (Nat.le_of_ble_eq_true rfl) rfl ?_
  unfold fX11_look at hf
  refine w_blk bX11_look_0 [.ref 0, .int x1, .retAddr 0, .retAddr 0, .retAddr 0, .retAddr 0, .retAddr 0, .retAddr 0] [.int x1] (sm_hp m) [] rfl (sm_on) ?_
  refine w_if_lt (tgt := 9) dX11_look_1 rfl (fun hc => ?_) (fun hc => ?_)
  · replace hf := sm_ift hc hf
    refine w_blk bX11_look_9 [.ref 0, .int x1, .retAddr 0, .retAddr 0, .retAddr 0, .retAddr 0, .retAddr 0, .retAddr 0] [.int (-1 : Int32)] (sm_hp m) [] rfl (sm_on) ?_
    obtain rfl := Option.some.inj hf
    exact w_reti dX11_look_10 rfl rfl
  · replace hf := sm_iff hc hf
    refine w_blk bX11_look_4 [.ref 0, .int x1, .retAddr 0, .retAddr 0, .retAddr 0, .retAddr 0, .retAddr 0, .retAddr 0] [.int (2 : Int32), .int x1] (sm_hp m) [] rfl (sm_on) ?_
    refine w_icmp_lt (tgt := 11) dX11_look_6 rfl (fun hc => ?_) (fun hc => ?_)
    · replace hf := sm_ift hc hf
      by_cases hc21 : x1 = (0 : Int32)
      · replace hf := sm_ift hc21 hf
        subst hc21
        refine w_blk bX11_look_11 [.ref 0, .int (0 : Int32), .ref 58, .retAddr 0, .retAddr 0, .retAddr 0, .retAddr 0, .retAddr 0] [.int (m.1 58 0)] (sm_hp m) [((0 : Int32), 2)] rfl (sm_oc (by decide) (sm_on)) ?_
        refine w_if_ne (tgt := 28) dX11_look_22 rfl (fun hc => ?_) (fun hc => ?_)
        · replace hf := sm_iff hc hf
          refine w_blk bX11_look_28 [.ref 0, .int (0 : Int32), .ref 58, .retAddr 0, .retAddr 0, .retAddr 0, .retAddr 0, .retAddr 0] [.ref 16, .ref 18] (sm_hp m) [] rfl (sm_on) ?_
          replace hf := sm_bd hf
          obtain ⟨m2, q1, hf⟩ := hf
          refine w_callV [.ref 16] [] (tX6_copyFrom m m2 q1) (cvX11_238 rfl) dX11_look_36 rfl rfl (by decide) (by decide) rfl (Nat.le_of_ble_eq_true rfl) ?_
          show sm_W _ _ _ _ _ 39 [.ref 0, .int (0 : Int32), .ref 58, .retAddr 0, .retAddr 0, .retAddr 0, .retAddr 0, .retAddr 0] [] (sm_hp m2)
          refine w_blk bX11_look_39 [.ref 0, .int (0 : Int32), .ref 58, .int (0 : Int32), .int (0 : Int32), .int (0 : Int32), .int (0 : Int32), .retAddr 0] [] (sm_hp (sm_w1 m2 18 0 (m2.1 58 1))) [] rfl (sm_on) ?_
          refine w_wk [true, false, true, true, true, true, true, false] ?_
          exact tX11_look_61 sm_fu (0 : Int32) (0 : Int32) (0 : Int32) (0 : Int32) (sm_w1 m2 18 0 (m2.1 58 1)) r hf
        · replace hf := sm_ift hc hf
          refine w_blk bX11_look_25 [.ref 0, .int (0 : Int32), .ref 58, .retAddr 0, .retAddr 0, .retAddr 0, .retAddr 0, .retAddr 0] [.int (-3 : Int32)] (sm_hp m) [] rfl (sm_on) ?_
          obtain rfl := Option.some.inj hf
          exact w_reti dX11_look_27 rfl rfl
      · replace hf := sm_iff hc21 hf
        by_cases hc42 : x1 = (1 : Int32)
        · replace hf := sm_ift hc42 hf
          subst hc42
          refine w_blk bX11_look_11 [.ref 0, .int (1 : Int32), .ref 62, .retAddr 0, .retAddr 0, .retAddr 0, .retAddr 0, .retAddr 0] [.int (m.1 62 0)] (sm_hp m) [((1 : Int32), 2)] rfl (sm_oc (by decide) (sm_on)) ?_
          refine w_if_ne (tgt := 28) dX11_look_22 rfl (fun hc => ?_) (fun hc => ?_)
          · replace hf := sm_iff hc hf
            refine w_blk bX11_look_28 [.ref 0, .int (1 : Int32), .ref 62, .retAddr 0, .retAddr 0, .retAddr 0, .retAddr 0, .retAddr 0] [.ref 16, .ref 18] (sm_hp m) [] rfl (sm_on) ?_
            replace hf := sm_bd hf
            obtain ⟨m23, q22, hf⟩ := hf
            refine w_callV [.ref 16] [] (tX6_copyFrom m m23 q22) (cvX11_238 rfl) dX11_look_36 rfl rfl (by decide) (by decide) rfl (Nat.le_of_ble_eq_true rfl) ?_
            show sm_W _ _ _ _ _ 39 [.ref 0, .int (1 : Int32), .ref 62, .retAddr 0, .retAddr 0, .retAddr 0, .retAddr 0, .retAddr 0] [] (sm_hp m23)
            refine w_blk bX11_look_39 [.ref 0, .int (1 : Int32), .ref 62, .int (0 : Int32), .int (0 : Int32), .int (0 : Int32), .int (0 : Int32), .retAddr 0] [] (sm_hp (sm_w1 m23 18 0 (m23.1 62 1))) [] rfl (sm_on) ?_
            refine w_wk [true, false, true, true, true, true, true, false] ?_
            exact tX11_look_61_1 sm_fu (0 : Int32) (0 : Int32) (0 : Int32) (0 : Int32) (sm_w1 m23 18 0 (m23.1 62 1)) r hf
          · replace hf := sm_ift hc hf
            refine w_blk bX11_look_25 [.ref 0, .int (1 : Int32), .ref 62, .retAddr 0, .retAddr 0, .retAddr 0, .retAddr 0, .retAddr 0] [.int (-3 : Int32)] (sm_hp m) [] rfl (sm_on) ?_
            obtain rfl := Option.some.inj hf
            exact w_reti dX11_look_27 rfl rfl
        · replace hf := sm_iff hc42 hf
          cases hf
    · replace hf := sm_iff hc hf
      refine w_blk bX11_look_9 [.ref 0, .int x1, .retAddr 0, .retAddr 0, .retAddr 0, .retAddr 0, .retAddr 0, .retAddr 0] [.int (-1 : Int32)] (sm_hp m) [] rfl (sm_on) ?_
      obtain rfl := Option.some.inj hf
      exact w_reti dX11_look_10 rfl rfl
set_option maxRecDepth 10000 in
theorem tX11_scheduleBoth {l : Launch} {al : Bool} (m : sm_S) (r : Int32 × sm_S) (hf : fX11_scheduleBoth m = some r) : sm_Rt l mX11_scheduleBoth 3 0 0 al al [.ref 0] (sm_hp m) (some (.int r.1), sm_hp r.2) := by
  refine sm_Rt.ofW (L := [.ref 0]) (by decide) (Nat.le_of_ble_eq_true rfl) rfl ?_
  unfold fX11_scheduleBoth at hf
  refine w_blk bX11_scheduleBoth_0 [.ref 0] [.int (m.1 58 0)] (sm_hp m) [((0 : Int32), 2)] rfl (sm_oc (by decide) (sm_on)) ?_
  refine w_if_eq (tgt := 24) dX11_scheduleBoth_9 rfl (fun hc => ?_) (fun hc => ?_)
  · replace hf := sm_ift hc hf
    refine w_blk bX11_scheduleBoth_24 [.ref 0] [.int (0 : Int32)] (sm_hp m) [] rfl (sm_on) ?_
    obtain rfl := Option.some.inj hf
    exact w_reti dX11_scheduleBoth_25 rfl sm_nb0
  · replace hf := sm_iff hc hf
    refine w_blk bX11_scheduleBoth_12 [.ref 0] [.int (m.1 62 0)] (sm_hp m) [((1 : Int32), 2)] rfl (sm_oc (by decide) (sm_on)) ?_
    refine w_if_ne (tgt := 26) dX11_scheduleBoth_21 rfl (fun hc => ?_) (fun hc => ?_)
    · replace hf := sm_iff hc hf
      refine w_blk bX11_scheduleBoth_26 [.ref 0] [.ref 3, .ref 58] (sm_hp m) [((0 : Int32), 2)] rfl (sm_oc (by decide) (sm_on)) ?_
      replace hf := sm_bd hf
      obtain ⟨r2, q1, hf⟩ := hf
      refine w_callV [.ref 3] [] (tX9_schedule m r2 q1) (cvX11_216 rfl) dX11_scheduleBoth_36 rfl rfl (by decide) (by decide) rfl (Nat.le_of_ble_eq_true rfl) ?_
      show sm_W _ _ _ _ _ 39 [.ref 0] [.int r2.1] (sm_hp r2.2)
      refine w_blk bX11_scheduleBoth_39 [.ref 0] [.ref 3, .ref 62] (sm_hp r2.2) [((1 : Int32), 2)] rfl (sm_oc (by decide) (sm_on)) ?_
      replace hf := sm_bd hf
      obtain ⟨r4, q3, hf⟩ := hf
      refine w_callV [.ref 3] [] (tX9_schedule_i1 r2.2 r4 q3) (cvX11_216 rfl) dX11_scheduleBoth_50 rfl rfl (by decide) (by decide) rfl (Nat.le_of_ble_eq_true rfl) ?_
      show sm_W _ _ _ _ _ 53 [.ref 0] [.int r4.1] (sm_hp r4.2)
      refine w_blk bX11_scheduleBoth_53 [.ref 0] [.int (1 : Int32)] (sm_hp r4.2) [] rfl (sm_on) ?_
      obtain rfl := Option.some.inj hf
      exact w_reti dX11_scheduleBoth_55 rfl sm_nb1
    · replace hf := sm_ift hc hf
      refine w_blk bX11_scheduleBoth_24 [.ref 0] [.int (0 : Int32)] (sm_hp m) [] rfl (sm_on) ?_
      obtain rfl := Option.some.inj hf
      exact w_reti dX11_scheduleBoth_25 rfl sm_nb0
set_option maxRecDepth 10000 in
theorem tX9_minuteOfBoth {l : Launch} {al : Bool} (x1 : Int32) (x2 : Int32) (x3 : Int32) (m : sm_S) (r : Int32) (hf : fX9_minuteOfBoth x1 x2 x3 m = some r) : sm_Rt l mX9_minuteOfBoth 1 0 0 al al [.ref 58, .int x1, .ref 62, .int x2, .int x3] (sm_hp m) (some (.int r), sm_hp m) := by
  refine sm_Rt.ofW (L := [.ref 58, .int x1, .ref 62, .int x2, .int x3, .retAddr 0, .retAddr 0, .retAddr 0, .retAddr 0]) (by decide) (Nat.le_of_ble_eq_true rfl) rfl ?_
  unfold fX9_minuteOfBoth at hf
  refine w_blk bX9_minuteOfBoth_0 [.ref 58, .int x1, .ref 62, .int x2, .int x3, .retAddr 0, .retAddr 0, .retAddr 0, .retAddr 0] [.int x2] (sm_hp m) [] rfl (sm_on) ?_
  refine w_if_ne (tgt := 8) dX9_minuteOfBoth_1 rfl (fun hc => ?_) (fun hc => ?_)
  · replace hf := sm_iff hc hf
    replace hf := sm_ck hf
    obtain ⟨q1, hf⟩ := hf
    refine w_blk bX9_minuteOfBoth_8 [.ref 58, .int x1, .ref 62, .int x2, .int x3, .retAddr 0, .retAddr 0, .retAddr 0, .retAddr 0] [.int (x3 + (m.1 65 (x2).toNatClampNeg))] (sm_hp m) [(x2, 30)] rfl (sm_oc q1 (sm_on)) ?_
    refine w_blk bX9_minuteOfBoth_17 [.ref 58, .int x1, .ref 62, .int x2, .int x3, .int (x3 + (m.1 65 (x2).toNatClampNeg)), .retAddr 0, .retAddr 0, .retAddr 0] [.int (m.1 62 2), .int x2] (sm_hp m) [] rfl (sm_on) ?_
    refine w_icmp_ne (tgt := 32) dX9_minuteOfBoth_24 rfl (fun hc => ?_) (fun hc => ?_)
    · replace hf := sm_iff hc hf
      replace hf := sm_ck hf
      obtain ⟨q2, hf⟩ := hf
      refine w_blk bX9_minuteOfBoth_32 [.ref 58, .int x1, .ref 62, .int x2, .int x3, .int (x3 + (m.1 65 (x2).toNatClampNeg)), .retAddr 0, .retAddr 0, .retAddr 0] [.int (x3 + (m.1 65 (x2).toNatClampNeg))] (sm_hp m) [(x2, 30)] rfl (sm_oc q2 (sm_on)) ?_
      refine w_blk bX9_minuteOfBoth_41 [.ref 58, .int x1, .ref 62, .int x2, .int x3, .int (x3 + (m.1 65 (x2).toNatClampNeg)), .int (x3 + (m.1 65 (x2).toNatClampNeg)), .retAddr 0, .retAddr 0] [.int (m.1 58 2), .int x1] (sm_hp m) [] rfl (sm_on) ?_
      refine w_icmp_ne (tgt := 56) dX9_minuteOfBoth_48 rfl (fun hc => ?_) (fun hc => ?_)
      · replace hf := sm_iff hc hf
        replace hf := sm_ck hf
        obtain ⟨q3, hf⟩ := hf
        refine w_blk bX9_minuteOfBoth_56 [.ref 58, .int x1, .ref 62, .int x2, .int x3, .int (x3 + (m.1 65 (x2).toNatClampNeg)), .int (x3 + (m.1 65 (x2).toNatClampNeg)), .retAddr 0, .retAddr 0] [.int (m.1 61 (x1).toNatClampNeg)] (sm_hp m) [(x1, 30)] rfl (sm_oc q3 (sm_on)) ?_
        replace hf := sm_ck hf
        obtain ⟨q4, hf⟩ := hf
        refine w_blk bX9_minuteOfBoth_62 [.ref 58, .int x1, .ref 62, .int x2, .int x3, .int (x3 + (m.1 65 (x2).toNatClampNeg)), .int (x3 + (m.1 65 (x2).toNatClampNeg)), .int (m.1 61 (x1).toNatClampNeg), .int (if (m.1 61 (x1).toNatClampNeg) < (x3 + (m.1 65 (x2).toNatClampNeg)) then (x3 + (m.1 65 (x2).toNatClampNeg)) else (m.1 61 (x1).toNatClampNeg))] [.int (if (x3 + (m.1 65 (x2).toNatClampNeg)) < (m.1 61 (x1).toNatClampNeg) then (x3 + (m.1 65 (x2).toNatClampNeg)) else (m.1 61 (x1).toNatClampNeg)), .int (if (m.1 61 (x1).toNatClampNeg) < (x3 + (m.1 65 (x2).toNatClampNeg)) then (x3 + (m.1 65 (x2).toNatClampNeg)) else (m.1 61 (x1).toNatClampNeg))] (sm_hp m) [(x1, 30)] rfl (sm_oc q4 (sm_on)) ?_
        refine w_icmp_gt (tgt := 94) dX9_minuteOfBoth_86 rfl (fun hc => ?_) (fun hc => ?_)
        · replace hf := sm_ift hc hf
          refine w_blk bX9_minuteOfBoth_94 [.ref 58, .int x1, .ref 62, .int x2, .int x3, .int (x3 + (m.1 65 (x2).toNatClampNeg)), .int (x3 + (m.1 65 (x2).toNatClampNeg)), .int (m.1 61 (x1).toNatClampNeg), .int (if (m.1 61 (x1).toNatClampNeg) < (x3 + (m.1 65 (x2).toNatClampNeg)) then (x3 + (m.1 65 (x2).toNatClampNeg)) else (m.1 61 (x1).toNatClampNeg))] [.int (65535 : Int32)] (sm_hp m) [] rfl (sm_on) ?_
          obtain rfl := Option.some.inj hf
          exact w_reti dX9_minuteOfBoth_96 rfl rfl
        · replace hf := sm_iff hc hf
          refine w_blk bX9_minuteOfBoth_89 [.ref 58, .int x1, .ref 62, .int x2, .int x3, .int (x3 + (m.1 65 (x2).toNatClampNeg)), .int (x3 + (m.1 65 (x2).toNatClampNeg)), .int (m.1 61 (x1).toNatClampNeg), .int (if (m.1 61 (x1).toNatClampNeg) < (x3 + (m.1 65 (x2).toNatClampNeg)) then (x3 + (m.1 65 (x2).toNatClampNeg)) else (m.1 61 (x1).toNatClampNeg))] [.int (if (m.1 61 (x1).toNatClampNeg) < (x3 + (m.1 65 (x2).toNatClampNeg)) then (x3 + (m.1 65 (x2).toNatClampNeg)) else (m.1 61 (x1).toNatClampNeg))] (sm_hp m) [] rfl (sm_on) ?_
          refine w_goto (tgt := 96) dX9_minuteOfBoth_91 rfl ?_
          obtain rfl := Option.some.inj hf
          exact w_reti dX9_minuteOfBoth_96 rfl rfl
      · replace hf := sm_ift hc hf
        refine w_blk bX9_minuteOfBoth_51 [.ref 58, .int x1, .ref 62, .int x2, .int x3, .int (x3 + (m.1 65 (x2).toNatClampNeg)), .int (x3 + (m.1 65 (x2).toNatClampNeg)), .retAddr 0, .retAddr 0] [.int (65535 : Int32)] (sm_hp m) [] rfl (sm_on) ?_
        refine w_goto (tgt := 62) dX9_minuteOfBoth_53 rfl ?_
        replace hf := sm_ck hf
        obtain ⟨q5, hf⟩ := hf
        refine w_blk bX9_minuteOfBoth_62 [.ref 58, .int x1, .ref 62, .int x2, .int x3, .int (x3 + (m.1 65 (x2).toNatClampNeg)), .int (x3 + (m.1 65 (x2).toNatClampNeg)), .int (65535 : Int32), .int (if (m.1 61 (x1).toNatClampNeg) < (x3 + (m.1 65 (x2).toNatClampNeg)) then (x3 + (m.1 65 (x2).toNatClampNeg)) else (m.1 61 (x1).toNatClampNeg))] [.int (if (x3 + (m.1 65 (x2).toNatClampNeg)) < (65535 : Int32) then (x3 + (m.1 65 (x2).toNatClampNeg)) else (65535 : Int32)), .int (if (m.1 61 (x1).toNatClampNeg) < (x3 + (m.1 65 (x2).toNatClampNeg)) then (x3 + (m.1 65 (x2).toNatClampNeg)) else (m.1 61 (x1).toNatClampNeg))] (sm_hp m) [(x1, 30)] rfl (sm_oc q5 (sm_on)) ?_
        refine w_icmp_gt (tgt := 94) dX9_minuteOfBoth_86 rfl (fun hc => ?_) (fun hc => ?_)
        · replace hf := sm_ift hc hf
          refine w_blk bX9_minuteOfBoth_94 [.ref 58, .int x1, .ref 62, .int x2, .int x3, .int (x3 + (m.1 65 (x2).toNatClampNeg)), .int (x3 + (m.1 65 (x2).toNatClampNeg)), .int (65535 : Int32), .int (if (m.1 61 (x1).toNatClampNeg) < (x3 + (m.1 65 (x2).toNatClampNeg)) then (x3 + (m.1 65 (x2).toNatClampNeg)) else (m.1 61 (x1).toNatClampNeg))] [.int (65535 : Int32)] (sm_hp m) [] rfl (sm_on) ?_
          obtain rfl := Option.some.inj hf
          exact w_reti dX9_minuteOfBoth_96 rfl rfl
        · replace hf := sm_iff hc hf
          refine w_blk bX9_minuteOfBoth_89 [.ref 58, .int x1, .ref 62, .int x2, .int x3, .int (x3 + (m.1 65 (x2).toNatClampNeg)), .int (x3 + (m.1 65 (x2).toNatClampNeg)), .int (65535 : Int32), .int (if (m.1 61 (x1).toNatClampNeg) < (x3 + (m.1 65 (x2).toNatClampNeg)) then (x3 + (m.1 65 (x2).toNatClampNeg)) else (m.1 61 (x1).toNatClampNeg))] [.int (if (m.1 61 (x1).toNatClampNeg) < (x3 + (m.1 65 (x2).toNatClampNeg)) then (x3 + (m.1 65 (x2).toNatClampNeg)) else (m.1 61 (x1).toNatClampNeg))] (sm_hp m) [] rfl (sm_on) ?_
          refine w_goto (tgt := 96) dX9_minuteOfBoth_91 rfl ?_
          obtain rfl := Option.some.inj hf
          exact w_reti dX9_minuteOfBoth_96 rfl rfl
    · replace hf := sm_ift hc hf
      refine w_blk bX9_minuteOfBoth_27 [.ref 58, .int x1, .ref 62, .int x2, .int x3, .int (x3 + (m.1 65 (x2).toNatClampNeg)), .retAddr 0, .retAddr 0, .retAddr 0] [.int (65535 : Int32)] (sm_hp m) [] rfl (sm_on) ?_
      refine w_goto (tgt := 41) dX9_minuteOfBoth_29 rfl ?_
      refine w_blk bX9_minuteOfBoth_41 [.ref 58, .int x1, .ref 62, .int x2, .int x3, .int (x3 + (m.1 65 (x2).toNatClampNeg)), .int (65535 : Int32), .retAddr 0, .retAddr 0] [.int (m.1 58 2), .int x1] (sm_hp m) [] rfl (sm_on) ?_
      refine w_icmp_ne (tgt := 56) dX9_minuteOfBoth_48 rfl (fun hc => ?_) (fun hc => ?_)
      · replace hf := sm_iff hc hf
        replace hf := sm_ck hf
        obtain ⟨q6, hf⟩ := hf
        refine w_blk bX9_minuteOfBoth_56 [.ref 58, .int x1, .ref 62, .int x2, .int x3, .int (x3 + (m.1 65 (x2).toNatClampNeg)), .int (65535 : Int32), .retAddr 0, .retAddr 0] [.int (m.1 61 (x1).toNatClampNeg)] (sm_hp m) [(x1, 30)] rfl (sm_oc q6 (sm_on)) ?_
        replace hf := sm_ck hf
        obtain ⟨q7, hf⟩ := hf
        refine w_blk bX9_minuteOfBoth_62 [.ref 58, .int x1, .ref 62, .int x2, .int x3, .int (x3 + (m.1 65 (x2).toNatClampNeg)), .int (65535 : Int32), .int (m.1 61 (x1).toNatClampNeg), .int (if (m.1 61 (x1).toNatClampNeg) < (x3 + (m.1 65 (x2).toNatClampNeg)) then (x3 + (m.1 65 (x2).toNatClampNeg)) else (m.1 61 (x1).toNatClampNeg))] [.int (if (65535 : Int32) < (m.1 61 (x1).toNatClampNeg) then (65535 : Int32) else (m.1 61 (x1).toNatClampNeg)), .int (if (m.1 61 (x1).toNatClampNeg) < (x3 + (m.1 65 (x2).toNatClampNeg)) then (x3 + (m.1 65 (x2).toNatClampNeg)) else (m.1 61 (x1).toNatClampNeg))] (sm_hp m) [(x1, 30)] rfl (sm_oc q7 (sm_on)) ?_
        refine w_icmp_gt (tgt := 94) dX9_minuteOfBoth_86 rfl (fun hc => ?_) (fun hc => ?_)
        · replace hf := sm_ift hc hf
          refine w_blk bX9_minuteOfBoth_94 [.ref 58, .int x1, .ref 62, .int x2, .int x3, .int (x3 + (m.1 65 (x2).toNatClampNeg)), .int (65535 : Int32), .int (m.1 61 (x1).toNatClampNeg), .int (if (m.1 61 (x1).toNatClampNeg) < (x3 + (m.1 65 (x2).toNatClampNeg)) then (x3 + (m.1 65 (x2).toNatClampNeg)) else (m.1 61 (x1).toNatClampNeg))] [.int (65535 : Int32)] (sm_hp m) [] rfl (sm_on) ?_
          obtain rfl := Option.some.inj hf
          exact w_reti dX9_minuteOfBoth_96 rfl rfl
        · replace hf := sm_iff hc hf
          refine w_blk bX9_minuteOfBoth_89 [.ref 58, .int x1, .ref 62, .int x2, .int x3, .int (x3 + (m.1 65 (x2).toNatClampNeg)), .int (65535 : Int32), .int (m.1 61 (x1).toNatClampNeg), .int (if (m.1 61 (x1).toNatClampNeg) < (x3 + (m.1 65 (x2).toNatClampNeg)) then (x3 + (m.1 65 (x2).toNatClampNeg)) else (m.1 61 (x1).toNatClampNeg))] [.int (if (m.1 61 (x1).toNatClampNeg) < (x3 + (m.1 65 (x2).toNatClampNeg)) then (x3 + (m.1 65 (x2).toNatClampNeg)) else (m.1 61 (x1).toNatClampNeg))] (sm_hp m) [] rfl (sm_on) ?_
          refine w_goto (tgt := 96) dX9_minuteOfBoth_91 rfl ?_
          obtain rfl := Option.some.inj hf
          exact w_reti dX9_minuteOfBoth_96 rfl rfl
      · replace hf := sm_ift hc hf
        refine w_blk bX9_minuteOfBoth_51 [.ref 58, .int x1, .ref 62, .int x2, .int x3, .int (x3 + (m.1 65 (x2).toNatClampNeg)), .int (65535 : Int32), .retAddr 0, .retAddr 0] [.int (65535 : Int32)] (sm_hp m) [] rfl (sm_on) ?_
        refine w_goto (tgt := 62) dX9_minuteOfBoth_53 rfl ?_
        replace hf := sm_ck hf
        obtain ⟨q8, hf⟩ := hf
        refine w_blk bX9_minuteOfBoth_62 [.ref 58, .int x1, .ref 62, .int x2, .int x3, .int (x3 + (m.1 65 (x2).toNatClampNeg)), .int (65535 : Int32), .int (65535 : Int32), .int (if (m.1 61 (x1).toNatClampNeg) < (x3 + (m.1 65 (x2).toNatClampNeg)) then (x3 + (m.1 65 (x2).toNatClampNeg)) else (m.1 61 (x1).toNatClampNeg))] [.int (if (65535 : Int32) < (65535 : Int32) then (65535 : Int32) else (65535 : Int32)), .int (if (m.1 61 (x1).toNatClampNeg) < (x3 + (m.1 65 (x2).toNatClampNeg)) then (x3 + (m.1 65 (x2).toNatClampNeg)) else (m.1 61 (x1).toNatClampNeg))] (sm_hp m) [(x1, 30)] rfl (sm_oc q8 (sm_on)) ?_
        refine w_icmp_gt (tgt := 94) dX9_minuteOfBoth_86 rfl (fun hc => ?_) (fun hc => ?_)
        · replace hf := sm_ift hc hf
          refine w_blk bX9_minuteOfBoth_94 [.ref 58, .int x1, .ref 62, .int x2, .int x3, .int (x3 + (m.1 65 (x2).toNatClampNeg)), .int (65535 : Int32), .int (65535 : Int32), .int (if (m.1 61 (x1).toNatClampNeg) < (x3 + (m.1 65 (x2).toNatClampNeg)) then (x3 + (m.1 65 (x2).toNatClampNeg)) else (m.1 61 (x1).toNatClampNeg))] [.int (65535 : Int32)] (sm_hp m) [] rfl (sm_on) ?_
          obtain rfl := Option.some.inj hf
          exact w_reti dX9_minuteOfBoth_96 rfl rfl
        · replace hf := sm_iff hc hf
          refine w_blk bX9_minuteOfBoth_89 [.ref 58, .int x1, .ref 62, .int x2, .int x3, .int (x3 + (m.1 65 (x2).toNatClampNeg)), .int (65535 : Int32), .int (65535 : Int32), .int (if (m.1 61 (x1).toNatClampNeg) < (x3 + (m.1 65 (x2).toNatClampNeg)) then (x3 + (m.1 65 (x2).toNatClampNeg)) else (m.1 61 (x1).toNatClampNeg))] [.int (if (m.1 61 (x1).toNatClampNeg) < (x3 + (m.1 65 (x2).toNatClampNeg)) then (x3 + (m.1 65 (x2).toNatClampNeg)) else (m.1 61 (x1).toNatClampNeg))] (sm_hp m) [] rfl (sm_on) ?_
          refine w_goto (tgt := 96) dX9_minuteOfBoth_91 rfl ?_
          obtain rfl := Option.some.inj hf
          exact w_reti dX9_minuteOfBoth_96 rfl rfl
  · replace hf := sm_ift hc hf
    refine w_blk bX9_minuteOfBoth_4 [.ref 58, .int x1, .ref 62, .int x2, .int x3, .retAddr 0, .retAddr 0, .retAddr 0, .retAddr 0] [.int (0 : Int32)] (sm_hp m) [] rfl (sm_on) ?_
    refine w_goto (tgt := 17) dX9_minuteOfBoth_5 rfl ?_
    refine w_blk bX9_minuteOfBoth_17 [.ref 58, .int x1, .ref 62, .int x2, .int x3, .int (0 : Int32), .retAddr 0, .retAddr 0, .retAddr 0] [.int (m.1 62 2), .int x2] (sm_hp m) [] rfl (sm_on) ?_
    refine w_icmp_ne (tgt := 32) dX9_minuteOfBoth_24 rfl (fun hc => ?_) (fun hc => ?_)
    · replace hf := sm_iff hc hf
      replace hf := sm_ck hf
      obtain ⟨q9, hf⟩ := hf
      refine w_blk bX9_minuteOfBoth_32 [.ref 58, .int x1, .ref 62, .int x2, .int x3, .int (0 : Int32), .retAddr 0, .retAddr 0, .retAddr 0] [.int (x3 + (m.1 65 (x2).toNatClampNeg))] (sm_hp m) [(x2, 30)] rfl (sm_oc q9 (sm_on)) ?_
      refine w_blk bX9_minuteOfBoth_41 [.ref 58, .int x1, .ref 62, .int x2, .int x3, .int (0 : Int32), .int (x3 + (m.1 65 (x2).toNatClampNeg)), .retAddr 0, .retAddr 0] [.int (m.1 58 2), .int x1] (sm_hp m) [] rfl (sm_on) ?_
      refine w_icmp_ne (tgt := 56) dX9_minuteOfBoth_48 rfl (fun hc => ?_) (fun hc => ?_)
      · replace hf := sm_iff hc hf
        replace hf := sm_ck hf
        obtain ⟨q10, hf⟩ := hf
        refine w_blk bX9_minuteOfBoth_56 [.ref 58, .int x1, .ref 62, .int x2, .int x3, .int (0 : Int32), .int (x3 + (m.1 65 (x2).toNatClampNeg)), .retAddr 0, .retAddr 0] [.int (m.1 61 (x1).toNatClampNeg)] (sm_hp m) [(x1, 30)] rfl (sm_oc q10 (sm_on)) ?_
        replace hf := sm_ck hf
        obtain ⟨q11, hf⟩ := hf
        refine w_blk bX9_minuteOfBoth_62 [.ref 58, .int x1, .ref 62, .int x2, .int x3, .int (0 : Int32), .int (x3 + (m.1 65 (x2).toNatClampNeg)), .int (m.1 61 (x1).toNatClampNeg), .int (if (m.1 61 (x1).toNatClampNeg) < (0 : Int32) then (0 : Int32) else (m.1 61 (x1).toNatClampNeg))] [.int (if (x3 + (m.1 65 (x2).toNatClampNeg)) < (m.1 61 (x1).toNatClampNeg) then (x3 + (m.1 65 (x2).toNatClampNeg)) else (m.1 61 (x1).toNatClampNeg)), .int (if (m.1 61 (x1).toNatClampNeg) < (0 : Int32) then (0 : Int32) else (m.1 61 (x1).toNatClampNeg))] (sm_hp m) [(x1, 30)] rfl (sm_oc q11 (sm_on)) ?_
        refine w_icmp_gt (tgt := 94) dX9_minuteOfBoth_86 rfl (fun hc => ?_) (fun hc => ?_)
        · replace hf := sm_ift hc hf
          refine w_blk bX9_minuteOfBoth_94 [.ref 58, .int x1, .ref 62, .int x2, .int x3, .int (0 : Int32), .int (x3 + (m.1 65 (x2).toNatClampNeg)), .int (m.1 61 (x1).toNatClampNeg), .int (if (m.1 61 (x1).toNatClampNeg) < (0 : Int32) then (0 : Int32) else (m.1 61 (x1).toNatClampNeg))] [.int (65535 : Int32)] (sm_hp m) [] rfl (sm_on) ?_
          obtain rfl := Option.some.inj hf
          exact w_reti dX9_minuteOfBoth_96 rfl rfl
        · replace hf := sm_iff hc hf
          refine w_blk bX9_minuteOfBoth_89 [.ref 58, .int x1, .ref 62, .int x2, .int x3, .int (0 : Int32), .int (x3 + (m.1 65 (x2).toNatClampNeg)), .int (m.1 61 (x1).toNatClampNeg), .int (if (m.1 61 (x1).toNatClampNeg) < (0 : Int32) then (0 : Int32) else (m.1 61 (x1).toNatClampNeg))] [.int (if (m.1 61 (x1).toNatClampNeg) < (0 : Int32) then (0 : Int32) else (m.1 61 (x1).toNatClampNeg))] (sm_hp m) [] rfl (sm_on) ?_
          refine w_goto (tgt := 96) dX9_minuteOfBoth_91 rfl ?_
          obtain rfl := Option.some.inj hf
          exact w_reti dX9_minuteOfBoth_96 rfl rfl
      · replace hf := sm_ift hc hf
        refine w_blk bX9_minuteOfBoth_51 [.ref 58, .int x1, .ref 62, .int x2, .int x3, .int (0 : Int32), .int (x3 + (m.1 65 (x2).toNatClampNeg)), .retAddr 0, .retAddr 0] [.int (65535 : Int32)] (sm_hp m) [] rfl (sm_on) ?_
        refine w_goto (tgt := 62) dX9_minuteOfBoth_53 rfl ?_
        replace hf := sm_ck hf
        obtain ⟨q12, hf⟩ := hf
        refine w_blk bX9_minuteOfBoth_62 [.ref 58, .int x1, .ref 62, .int x2, .int x3, .int (0 : Int32), .int (x3 + (m.1 65 (x2).toNatClampNeg)), .int (65535 : Int32), .int (if (m.1 61 (x1).toNatClampNeg) < (0 : Int32) then (0 : Int32) else (m.1 61 (x1).toNatClampNeg))] [.int (if (x3 + (m.1 65 (x2).toNatClampNeg)) < (65535 : Int32) then (x3 + (m.1 65 (x2).toNatClampNeg)) else (65535 : Int32)), .int (if (m.1 61 (x1).toNatClampNeg) < (0 : Int32) then (0 : Int32) else (m.1 61 (x1).toNatClampNeg))] (sm_hp m) [(x1, 30)] rfl (sm_oc q12 (sm_on)) ?_
        refine w_icmp_gt (tgt := 94) dX9_minuteOfBoth_86 rfl (fun hc => ?_) (fun hc => ?_)
        · replace hf := sm_ift hc hf
          refine w_blk bX9_minuteOfBoth_94 [.ref 58, .int x1, .ref 62, .int x2, .int x3, .int (0 : Int32), .int (x3 + (m.1 65 (x2).toNatClampNeg)), .int (65535 : Int32), .int (if (m.1 61 (x1).toNatClampNeg) < (0 : Int32) then (0 : Int32) else (m.1 61 (x1).toNatClampNeg))] [.int (65535 : Int32)] (sm_hp m) [] rfl (sm_on) ?_
          obtain rfl := Option.some.inj hf
          exact w_reti dX9_minuteOfBoth_96 rfl rfl
        · replace hf := sm_iff hc hf
          refine w_blk bX9_minuteOfBoth_89 [.ref 58, .int x1, .ref 62, .int x2, .int x3, .int (0 : Int32), .int (x3 + (m.1 65 (x2).toNatClampNeg)), .int (65535 : Int32), .int (if (m.1 61 (x1).toNatClampNeg) < (0 : Int32) then (0 : Int32) else (m.1 61 (x1).toNatClampNeg))] [.int (if (m.1 61 (x1).toNatClampNeg) < (0 : Int32) then (0 : Int32) else (m.1 61 (x1).toNatClampNeg))] (sm_hp m) [] rfl (sm_on) ?_
          refine w_goto (tgt := 96) dX9_minuteOfBoth_91 rfl ?_
          obtain rfl := Option.some.inj hf
          exact w_reti dX9_minuteOfBoth_96 rfl rfl
    · replace hf := sm_ift hc hf
      refine w_blk bX9_minuteOfBoth_27 [.ref 58, .int x1, .ref 62, .int x2, .int x3, .int (0 : Int32), .retAddr 0, .retAddr 0, .retAddr 0] [.int (65535 : Int32)] (sm_hp m) [] rfl (sm_on) ?_
      refine w_goto (tgt := 41) dX9_minuteOfBoth_29 rfl ?_
      refine w_blk bX9_minuteOfBoth_41 [.ref 58, .int x1, .ref 62, .int x2, .int x3, .int (0 : Int32), .int (65535 : Int32), .retAddr 0, .retAddr 0] [.int (m.1 58 2), .int x1] (sm_hp m) [] rfl (sm_on) ?_
      refine w_icmp_ne (tgt := 56) dX9_minuteOfBoth_48 rfl (fun hc => ?_) (fun hc => ?_)
      · replace hf := sm_iff hc hf
        replace hf := sm_ck hf
        obtain ⟨q13, hf⟩ := hf
        refine w_blk bX9_minuteOfBoth_56 [.ref 58, .int x1, .ref 62, .int x2, .int x3, .int (0 : Int32), .int (65535 : Int32), .retAddr 0, .retAddr 0] [.int (m.1 61 (x1).toNatClampNeg)] (sm_hp m) [(x1, 30)] rfl (sm_oc q13 (sm_on)) ?_
        replace hf := sm_ck hf
        obtain ⟨q14, hf⟩ := hf
        refine w_blk bX9_minuteOfBoth_62 [.ref 58, .int x1, .ref 62, .int x2, .int x3, .int (0 : Int32), .int (65535 : Int32), .int (m.1 61 (x1).toNatClampNeg), .int (if (m.1 61 (x1).toNatClampNeg) < (0 : Int32) then (0 : Int32) else (m.1 61 (x1).toNatClampNeg))] [.int (if (65535 : Int32) < (m.1 61 (x1).toNatClampNeg) then (65535 : Int32) else (m.1 61 (x1).toNatClampNeg)), .int (if (m.1 61 (x1).toNatClampNeg) < (0 : Int32) then (0 : Int32) else (m.1 61 (x1).toNatClampNeg))] (sm_hp m) [(x1, 30)] rfl (sm_oc q14 (sm_on)) ?_
        refine w_icmp_gt (tgt := 94) dX9_minuteOfBoth_86 rfl (fun hc => ?_) (fun hc => ?_)
        · replace hf := sm_ift hc hf
          refine w_blk bX9_minuteOfBoth_94 [.ref 58, .int x1, .ref 62, .int x2, .int x3, .int (0 : Int32), .int (65535 : Int32), .int (m.1 61 (x1).toNatClampNeg), .int (if (m.1 61 (x1).toNatClampNeg) < (0 : Int32) then (0 : Int32) else (m.1 61 (x1).toNatClampNeg))] [.int (65535 : Int32)] (sm_hp m) [] rfl (sm_on) ?_
          obtain rfl := Option.some.inj hf
          exact w_reti dX9_minuteOfBoth_96 rfl rfl
        · replace hf := sm_iff hc hf
          refine w_blk bX9_minuteOfBoth_89 [.ref 58, .int x1, .ref 62, .int x2, .int x3, .int (0 : Int32), .int (65535 : Int32), .int (m.1 61 (x1).toNatClampNeg), .int (if (m.1 61 (x1).toNatClampNeg) < (0 : Int32) then (0 : Int32) else (m.1 61 (x1).toNatClampNeg))] [.int (if (m.1 61 (x1).toNatClampNeg) < (0 : Int32) then (0 : Int32) else (m.1 61 (x1).toNatClampNeg))] (sm_hp m) [] rfl (sm_on) ?_
          refine w_goto (tgt := 96) dX9_minuteOfBoth_91 rfl ?_
          obtain rfl := Option.some.inj hf
          exact w_reti dX9_minuteOfBoth_96 rfl rfl
      · replace hf := sm_ift hc hf
        refine w_blk bX9_minuteOfBoth_51 [.ref 58, .int x1, .ref 62, .int x2, .int x3, .int (0 : Int32), .int (65535 : Int32), .retAddr 0, .retAddr 0] [.int (65535 : Int32)] (sm_hp m) [] rfl (sm_on) ?_
        refine w_goto (tgt := 62) dX9_minuteOfBoth_53 rfl ?_
        replace hf := sm_ck hf
        obtain ⟨q15, hf⟩ := hf
        refine w_blk bX9_minuteOfBoth_62 [.ref 58, .int x1, .ref 62, .int x2, .int x3, .int (0 : Int32), .int (65535 : Int32), .int (65535 : Int32), .int (if (m.1 61 (x1).toNatClampNeg) < (0 : Int32) then (0 : Int32) else (m.1 61 (x1).toNatClampNeg))] [.int (if (65535 : Int32) < (65535 : Int32) then (65535 : Int32) else (65535 : Int32)), .int (if (m.1 61 (x1).toNatClampNeg) < (0 : Int32) then (0 : Int32) else (m.1 61 (x1).toNatClampNeg))] (sm_hp m) [(x1, 30)] rfl (sm_oc q15 (sm_on)) ?_
        refine w_icmp_gt (tgt := 94) dX9_minuteOfBoth_86 rfl (fun hc => ?_) (fun hc => ?_)
        · replace hf := sm_ift hc hf
          refine w_blk bX9_minuteOfBoth_94 [.ref 58, .int x1, .ref 62, .int x2, .int x3, .int (0 : Int32), .int (65535 : Int32), .int (65535 : Int32), .int (if (m.1 61 (x1).toNatClampNeg) < (0 : Int32) then (0 : Int32) else (m.1 61 (x1).toNatClampNeg))] [.int (65535 : Int32)] (sm_hp m) [] rfl (sm_on) ?_
          obtain rfl := Option.some.inj hf
          exact w_reti dX9_minuteOfBoth_96 rfl rfl
        · replace hf := sm_iff hc hf
          refine w_blk bX9_minuteOfBoth_89 [.ref 58, .int x1, .ref 62, .int x2, .int x3, .int (0 : Int32), .int (65535 : Int32), .int (65535 : Int32), .int (if (m.1 61 (x1).toNatClampNeg) < (0 : Int32) then (0 : Int32) else (m.1 61 (x1).toNatClampNeg))] [.int (if (m.1 61 (x1).toNatClampNeg) < (0 : Int32) then (0 : Int32) else (m.1 61 (x1).toNatClampNeg))] (sm_hp m) [] rfl (sm_on) ?_
          refine w_goto (tgt := 96) dX9_minuteOfBoth_91 rfl ?_
          obtain rfl := Option.some.inj hf
          exact w_reti dX9_minuteOfBoth_96 rfl rfl
set_option maxRecDepth 10000 in
theorem tX9_firstMeeting_21 {l : Launch} {al : Bool} (k9 : Int32 → Int32 → Int32 → Int32 → sm_S → Option (Int32)) (hk9 : ∀ (v2 : Int32) (v3 : Int32) (v4 : Int32) (v5 : Int32) (m : sm_S) (r : Int32), k9 v2 v3 v4 v5 m = some r → sm_W l mX9_firstMeeting 2 al (some (.int r), sm_hp m) 9 [.ref 58, .ref 62, .int v2, .int v3, .int v4, .int v5, .retAddr 0, .retAddr 0] [] (sm_hp m)) : ∀ (n : Nat) (v2 : Int32) (v3 : Int32) (v4 : Int32) (v5 : Int32) (v6 : Int32) (m : sm_S) (r : Int32), fX9_firstMeeting_21 k9 n v2 v3 v4 v5 v6 m = some r → sm_W l mX9_firstMeeting 2 al (some (.int r), sm_hp m) 21 [.ref 58, .ref 62, .int v2, .int v3, .int v4, .int v5, .int v6, .retAddr 0] [] (sm_hp m) := by
  intro n
  induction n with
  | zero =>
    intro v2 v3 v4 v5 v6 m r hf
    unfold fX9_firstMeeting_21 at hf
    cases hf
  | succ n ih =>
    intro v2 v3 v4 v5 v6 m r hf
    unfold fX9_firstMeeting_21 at hf
    refine w_blk bX9_firstMeeting_21 [.ref 58, .ref 62, .int v2, .int v3, .int v4, .int v5, .int v6, .retAddr 0] [.int (m.1 62 2), .int v6] (sm_hp m) [] rfl (sm_on) ?_
    refine w_icmp_gt (tgt := 88) dX9_firstMeeting_27 rfl (fun hc => ?_) (fun hc => ?_)
    · replace hf := sm_ift hc hf
      refine w_blk bX9_firstMeeting_88 [.ref 58, .ref 62, .int v2, .int v3, .int v4, .int (v5 + (1 : Int32)), .int v6, .retAddr 0] [] (sm_hp m) [] rfl (sm_on) ?_
      refine w_goto (tgt := 9) dX9_firstMeeting_91 rfl ?_
      refine w_wk [true, true, true, true, true, true, false, false] ?_
      exact hk9 v2 v3 v4 (v5 + (1 : Int32)) m r hf
    · replace hf := sm_iff hc hf
      replace hf := sm_ck hf
      obtain ⟨q1, hf⟩ := hf
      replace hf := sm_ck hf
      obtain ⟨q2, hf⟩ := hf
      refine w_blk bX9_firstMeeting_30 [.ref 58, .ref 62, .int v2, .int v3, .int v4, .int v5, .int v6, .retAddr 0] [.int (m.1 64 (v6).toNatClampNeg), .int (m.1 60 (v5).toNatClampNeg)] (sm_hp m) [(v5, 30), (v6, 30)] rfl (sm_oc q1 (sm_oc q2 (sm_on))) ?_
      refine w_icmp_ne (tgt := 60) dX9_firstMeeting_44 rfl (fun hc => ?_) (fun hc => ?_)
      · replace hf := sm_iff hc hf
        refine w_blk bX9_firstMeeting_60 [.ref 58, .ref 62, .int v2, .int v3, .int v4, .int v5, .int v6, .retAddr 0] [.int (65535 : Int32)] (sm_hp m) [] rfl (sm_on) ?_
        refine w_blk bX9_firstMeeting_62 [.ref 58, .ref 62, .int v2, .int v3, .int v4, .int v5, .int v6, .int (65535 : Int32)] [.int v3, .int (65535 : Int32)] (sm_hp m) [] rfl (sm_on) ?_
        refine w_icmp_ge (tgt := 82) dX9_firstMeeting_67 rfl (fun hc => ?_) (fun hc => ?_)
        · replace hf := sm_ift hc hf
          refine w_blk bX9_firstMeeting_82 [.ref 58, .ref 62, .int v2, .int v3, .int v4, .int v5, .int (v6 + (1 : Int32)), .int (65535 : Int32)] [] (sm_hp m) [] rfl (sm_on) ?_
          refine w_goto (tgt := 21) dX9_firstMeeting_85 rfl ?_
          refine w_wk [true, true, true, true, true, true, true, false] ?_
          exact ih v2 v3 v4 v5 (v6 + (1 : Int32)) m r hf
        · replace hf := sm_iff hc hf
          replace hf := sm_ck hf
          obtain ⟨q3, hf⟩ := hf
          refine w_blk bX9_firstMeeting_70 [.ref 58, .ref 62, .int v2, .int (65535 : Int32), .int (m.1 60 (v5).toNatClampNeg), .int v5, .int v6, .int (65535 : Int32)] [] (sm_hp m) [(v5, 30)] rfl (sm_oc q3 (sm_on)) ?_
          refine w_blk bX9_firstMeeting_82 [.ref 58, .ref 62, .int v2, .int (65535 : Int32), .int (m.1 60 (v5).toNatClampNeg), .int v5, .int (v6 + (1 : Int32)), .int (65535 : Int32)] [] (sm_hp m) [] rfl (sm_on) ?_
          refine w_goto (tgt := 21) dX9_firstMeeting_85 rfl ?_
          refine w_wk [true, true, true, true, true, true, true, false] ?_
          exact ih v2 (65535 : Int32) (m.1 60 (v5).toNatClampNeg) v5 (v6 + (1 : Int32)) m r hf
      · replace hf := sm_ift hc hf
        refine w_blk bX9_firstMeeting_47 [.ref 58, .ref 62, .int v2, .int v3, .int v4, .int v5, .int v6, .retAddr 0] [.int v2, .int v6, .ref 62, .int v5, .ref 58] (sm_hp m) [] rfl (sm_on) ?_
        replace hf := sm_bd hf
        obtain ⟨r5, q4, hf⟩ := hf
        refine w_callS [.ref 58, .int v5, .ref 62, .int v6, .int v2] [] (tX9_minuteOfBoth v5 v6 v2 m r5 q4) (csX9_53 rfl) dX9_firstMeeting_54 rfl rfl (by decide) (by decide) (Nat.le_of_ble_eq_true rfl) ?_
        show sm_W _ _ _ _ _ 57 [.ref 58, .ref 62, .int v2, .int v3, .int v4, .int v5, .int v6, .retAddr 0] [.int r5] (sm_hp m)
        refine w_goto (tgt := 62) dX9_firstMeeting_57 rfl ?_
        refine w_blk bX9_firstMeeting_62 [.ref 58, .ref 62, .int v2, .int v3, .int v4, .int v5, .int v6, .int r5] [.int v3, .int r5] (sm_hp m) [] rfl (sm_on) ?_
        refine w_icmp_ge (tgt := 82) dX9_firstMeeting_67 rfl (fun hc => ?_) (fun hc => ?_)
        · replace hf := sm_ift hc hf
          refine w_blk bX9_firstMeeting_82 [.ref 58, .ref 62, .int v2, .int v3, .int v4, .int v5, .int (v6 + (1 : Int32)), .int r5] [] (sm_hp m) [] rfl (sm_on) ?_
          refine w_goto (tgt := 21) dX9_firstMeeting_85 rfl ?_
          refine w_wk [true, true, true, true, true, true, true, false] ?_
          exact ih v2 v3 v4 v5 (v6 + (1 : Int32)) m r hf
        · replace hf := sm_iff hc hf
          replace hf := sm_ck hf
          obtain ⟨q6, hf⟩ := hf
          refine w_blk bX9_firstMeeting_70 [.ref 58, .ref 62, .int v2, .int r5, .int (m.1 60 (v5).toNatClampNeg), .int v5, .int v6, .int r5] [] (sm_hp m) [(v5, 30)] rfl (sm_oc q6 (sm_on)) ?_
          refine w_blk bX9_firstMeeting_82 [.ref 58, .ref 62, .int v2, .int r5, .int (m.1 60 (v5).toNatClampNeg), .int v5, .int (v6 + (1 : Int32)), .int r5] [] (sm_hp m) [] rfl (sm_on) ?_
          refine w_goto (tgt := 21) dX9_firstMeeting_85 rfl ?_
          refine w_wk [true, true, true, true, true, true, true, false] ?_
          exact ih v2 r5 (m.1 60 (v5).toNatClampNeg) v5 (v6 + (1 : Int32)) m r hf
set_option maxRecDepth 10000 in
theorem tX9_firstMeeting_9 {l : Launch} {al : Bool} : ∀ (n : Nat) (v2 : Int32) (v3 : Int32) (v4 : Int32) (v5 : Int32) (m : sm_S) (r : Int32), fX9_firstMeeting_9 n v2 v3 v4 v5 m = some r → sm_W l mX9_firstMeeting 2 al (some (.int r), sm_hp m) 9 [.ref 58, .ref 62, .int v2, .int v3, .int v4, .int v5, .retAddr 0, .retAddr 0] [] (sm_hp m) := by
  intro n
  induction n with
  | zero =>
    intro v2 v3 v4 v5 m r hf
    unfold fX9_firstMeeting_9 at hf
    cases hf
  | succ n ih =>
    intro v2 v3 v4 v5 m r hf
    unfold fX9_firstMeeting_9 at hf
    refine w_blk bX9_firstMeeting_9 [.ref 58, .ref 62, .int v2, .int v3, .int v4, .int v5, .retAddr 0, .retAddr 0] [.int (m.1 58 2), .int v5] (sm_hp m) [] rfl (sm_on) ?_
    refine w_icmp_gt (tgt := 94) dX9_firstMeeting_15 rfl (fun hc => ?_) (fun hc => ?_)
    · replace hf := sm_ift hc hf
      refine w_blk bX9_firstMeeting_94 [.ref 58, .ref 62, .int v2, .int v3, .int v4, .int v5, .retAddr 0, .retAddr 0] [.int (65535 : Int32), .int v3] (sm_hp m) [] rfl (sm_on) ?_
      refine w_icmp_ge (tgt := 109) dX9_firstMeeting_97 rfl (fun hc => ?_) (fun hc => ?_)
      · replace hf := sm_ift hc hf
        refine w_blk bX9_firstMeeting_109 [.ref 58, .ref 62, .int v2, .int v3, .int v4, .int v5, .retAddr 0, .retAddr 0] [.int (-1 : Int32)] (sm_hp m) [] rfl (sm_on) ?_
        obtain rfl := Option.some.inj hf
        exact w_reti dX9_firstMeeting_110 rfl rfl
      · replace hf := sm_iff hc hf
        refine w_blk bX9_firstMeeting_100 [.ref 58, .ref 62, .int v2, .int v3, .int v4, .int v5, .retAddr 0, .retAddr 0] [.int ((v3 <<< ((4 : Int32) &&& 31)) ||| v4)] (sm_hp m) [] rfl (sm_on) ?_
        refine w_goto (tgt := 110) dX9_firstMeeting_106 rfl ?_
        obtain rfl := Option.some.inj hf
        exact w_reti dX9_firstMeeting_110 rfl rfl
    · replace hf := sm_iff hc hf
      refine w_blk bX9_firstMeeting_18 [.ref 58, .ref 62, .int v2, .int v3, .int v4, .int v5, .int (0 : Int32), .retAddr 0] [] (sm_hp m) [] rfl (sm_on) ?_
      exact tX9_firstMeeting_21 (fX9_firstMeeting_9 n) ih sm_fu v2 v3 v4 v5 (0 : Int32) m r hf
set_option maxRecDepth 10000 in
theorem tX9_firstMeeting {l : Launch} {al : Bool} (x1 : Int32) (m : sm_S) (r : Int32) (hf : fX9_firstMeeting x1 m = some r) : sm_Rt l mX9_firstMeeting 2 0 0 al al [.ref 58, .ref 62, .int x1] (sm_hp m) (some (.int r), sm_hp m) := by
  refine sm_Rt.ofW (L := [.ref 58, .ref 62, .int x1, .retAddr 0, .retAddr 0, .retAddr 0, .retAddr 0, .retAddr 0]) (by decide) (Nat.le_of_ble_eq_true rfl) rfl ?_
  unfold fX9_firstMeeting at hf
  refine w_blk bX9_firstMeeting_0 [.ref 58, .ref 62, .int x1, .int (65535 : Int32), .int (0 : Int32), .int (0 : Int32), .retAddr 0, .retAddr 0] [] (sm_hp m) [] rfl (sm_on) ?_
  exact tX9_firstMeeting_9 sm_fu x1 (65535 : Int32) (0 : Int32) (0 : Int32) m r hf
set_option maxRecDepth 10000 in
theorem tX11_meets {l : Launch} {al : Bool} (x1 : Int32) (m : sm_S) (r : Int32 × sm_S) (hf : fX11_meets x1 m = some r) : sm_Rt l mX11_meets 4 0 0 al al [.ref 0, .int x1] (sm_hp m) (some (.int r.1), sm_hp r.2) := by
  refine sm_Rt.ofW (L := [.ref 0, .int x1, .retAddr 0]) (by decide) (Nat.le_of_ble_eq_true rfl) rfl ?_
  unfold fX11_meets at hf
  refine w_blk bX11_meets_0 [.ref 0, .int x1, .retAddr 0] [.int x1] (sm_hp m) [] rfl (sm_on) ?_
  refine w_if_lt (tgt := 10) dX11_meets_1 rfl (fun hc => ?_) (fun hc => ?_)
  · replace hf := sm_ift hc hf
    refine w_blk bX11_meets_10 [.ref 0, .int x1, .retAddr 0] [.int (-1 : Int32)] (sm_hp m) [] rfl (sm_on) ?_
    obtain rfl := Option.some.inj hf
    exact w_reti dX11_meets_11 rfl rfl
  · replace hf := sm_iff hc hf
    refine w_blk bX11_meets_4 [.ref 0, .int x1, .retAddr 0] [.int (99 : Int32), .int x1] (sm_hp m) [] rfl (sm_on) ?_
    refine w_icmp_le (tgt := 12) dX11_meets_7 rfl (fun hc => ?_) (fun hc => ?_)
    · replace hf := sm_ift hc hf
      refine w_blk bX11_meets_12 [.ref 0, .int x1, .retAddr 0] [.ref 0] (sm_hp m) [] rfl (sm_on) ?_
      replace hf := sm_bd hf
      obtain ⟨r2, q1, hf⟩ := hf
      refine w_callV [] [] (tX11_scheduleBoth m r2 q1) (cvX11_249 rfl) dX11_meets_13 rfl rfl (by decide) (by decide) rfl (Nat.le_of_ble_eq_true rfl) ?_
      show sm_W _ _ _ _ _ 16 [.ref 0, .int x1, .retAddr 0] [.int r2.1] (sm_hp r2.2)
      refine w_if_ne (tgt := 22) dX11_meets_16 rfl (fun hc => ?_) (fun hc => ?_)
      · replace hf := sm_iff hc hf
        refine w_blk bX11_meets_22 [.ref 0, .int x1, .retAddr 0] [.int x1, .ref 62, .ref 58] (sm_hp r2.2) [((0 : Int32), 2), ((1 : Int32), 2)] rfl (sm_oc (by decide) (sm_oc (by decide) (sm_on))) ?_
        replace hf := sm_bd hf
        obtain ⟨r4, q3, hf⟩ := hf
        refine w_callS [.ref 58, .ref 62, .int x1] [] (tX9_firstMeeting x1 r2.2 r4 q3) (csX11_253 rfl) dX11_meets_35 rfl rfl (by decide) (by decide) (Nat.le_of_ble_eq_true rfl) ?_
        show sm_W _ _ _ _ _ 38 [.ref 0, .int x1, .retAddr 0] [.int r4] (sm_hp r2.2)
        refine w_blk bX11_meets_38 [.ref 0, .int x1, .int r4] [.int r4] (sm_hp r2.2) [] rfl (sm_on) ?_
        refine w_if_ge (tgt := 46) dX11_meets_40 rfl (fun hc => ?_) (fun hc => ?_)
        · replace hf := sm_ift hc hf
          refine w_blk bX11_meets_46 [.ref 0, .int x1, .int r4] [.int (r4 &&& (15 : Int32)), .ref 14] (sm_hp r2.2) [] rfl (sm_on) ?_
          replace hf := sm_bd hf
          obtain ⟨m6, q5, hf⟩ := hf
          refine w_callV [.int (r4 &&& (15 : Int32))] [] (tX5_tell (r4 &&& (15 : Int32)) r2.2 m6 q5) (cvX11_224 rfl) dX11_meets_54 rfl rfl (by decide) (by decide) rfl (Nat.le_of_ble_eq_true rfl) ?_
          show sm_W _ _ _ _ _ 57 [.ref 0, .int x1, .int r4] [] (sm_hp m6)
          refine w_blk bX11_meets_57 [.ref 0, .int x1, .int r4] [.int (r4 >>> ((4 : Int32) &&& 31))] (sm_hp m6) [] rfl (sm_on) ?_
          obtain rfl := Option.some.inj hf
          exact w_reti dX11_meets_60 rfl rfl
        · replace hf := sm_iff hc hf
          refine w_blk bX11_meets_43 [.ref 0, .int x1, .int r4] [.int (-2 : Int32)] (sm_hp r2.2) [] rfl (sm_on) ?_
          obtain rfl := Option.some.inj hf
          exact w_reti dX11_meets_45 rfl rfl
      · replace hf := sm_ift hc hf
        refine w_blk bX11_meets_19 [.ref 0, .int x1, .retAddr 0] [.int (-3 : Int32)] (sm_hp r2.2) [] rfl (sm_on) ?_
        obtain rfl := Option.some.inj hf
        exact w_reti dX11_meets_21 rfl rfl
    · replace hf := sm_iff hc hf
      refine w_blk bX11_meets_10 [.ref 0, .int x1, .retAddr 0] [.int (-1 : Int32)] (sm_hp m) [] rfl (sm_on) ?_
      obtain rfl := Option.some.inj hf
      exact w_reti dX11_meets_11 rfl rfl
set_option maxRecDepth 10000 in
theorem tX11_apart_12 {l : Launch} {al : Bool} : ∀ (n : Nat) (v1 : Int32) (m : sm_S) (r : Int32 × sm_S), fX11_apart_12 n v1 m = some r → sm_W l mX11_apart 4 al (some (.int r.1), sm_hp r.2) 12 [.ref 0, .int v1] [] (sm_hp m) := by
  intro n
  induction n with
  | zero =>
    intro v1 m r hf
    unfold fX11_apart_12 at hf
    cases hf
  | succ n ih =>
    intro v1 m r hf
    unfold fX11_apart_12 at hf
    refine w_blk bX11_apart_12 [.ref 0, .int v1] [.int (99 : Int32), .int v1] (sm_hp m) [] rfl (sm_on) ?_
    refine w_icmp_gt (tgt := 45) dX11_apart_15 rfl (fun hc => ?_) (fun hc => ?_)
    · replace hf := sm_ift hc hf
      refine w_blk bX11_apart_45 [.ref 0, .int v1] [.int (-2 : Int32)] (sm_hp m) [] rfl (sm_on) ?_
      obtain rfl := Option.some.inj hf
      exact w_reti dX11_apart_47 rfl rfl
    · replace hf := sm_iff hc hf
      refine w_blk bX11_apart_18 [.ref 0, .int v1] [.int v1, .ref 62, .ref 58] (sm_hp m) [((0 : Int32), 2), ((1 : Int32), 2)] rfl (sm_oc (by decide) (sm_oc (by decide) (sm_on))) ?_
      replace hf := sm_bd hf
      obtain ⟨r4, q3, hf⟩ := hf
      refine w_callS [.ref 58, .ref 62, .int v1] [] (tX9_firstMeeting v1 m r4 q3) (csX11_253 rfl) dX11_apart_31 rfl rfl (by decide) (by decide) (Nat.le_of_ble_eq_true rfl) ?_
      show sm_W _ _ _ _ _ 34 [.ref 0, .int v1] [.int r4] (sm_hp m)
      refine w_if_ge (tgt := 39) dX11_apart_34 rfl (fun hc => ?_) (fun hc => ?_)
      · replace hf := sm_ift hc hf
        refine w_blk bX11_apart_39 [.ref 0, .int (v1 + (1 : Int32))] [] (sm_hp m) [] rfl (sm_on) ?_
        refine w_goto (tgt := 12) dX11_apart_42 rfl ?_
        exact ih (v1 + (1 : Int32)) m r hf
      · replace hf := sm_iff hc hf
        refine w_blk bX11_apart_37 [.ref 0, .int v1] [.int v1] (sm_hp m) [] rfl (sm_on) ?_
        obtain rfl := Option.some.inj hf
        exact w_reti dX11_apart_38 rfl rfl
set_option maxRecDepth 10000 in
theorem tX11_apart {l : Launch} {al : Bool} (m : sm_S) (r : Int32 × sm_S) (hf : fX11_apart m = some r) : sm_Rt l mX11_apart 4 0 0 al al [.ref 0] (sm_hp m) (some (.int r.1), sm_hp r.2) := by
  refine sm_Rt.ofW (L := [.ref 0, .retAddr 0]) (by decide) (Nat.le_of_ble_eq_true rfl) rfl ?_
  unfold fX11_apart at hf
  refine w_blk bX11_apart_0 [.ref 0, .retAddr 0] [.ref 0] (sm_hp m) [] rfl (sm_on) ?_
  replace hf := sm_bd hf
  obtain ⟨r2, q1, hf⟩ := hf
  refine w_callV [] [] (tX11_scheduleBoth m r2 q1) (cvX11_249 rfl) dX11_apart_1 rfl rfl (by decide) (by decide) rfl (Nat.le_of_ble_eq_true rfl) ?_
  show sm_W _ _ _ _ _ 4 [.ref 0, .retAddr 0] [.int r2.1] (sm_hp r2.2)
  refine w_if_ne (tgt := 10) dX11_apart_4 rfl (fun hc => ?_) (fun hc => ?_)
  · replace hf := sm_iff hc hf
    refine w_blk bX11_apart_10 [.ref 0, .int (0 : Int32)] [] (sm_hp r2.2) [] rfl (sm_on) ?_
    exact tX11_apart_12 sm_fu (0 : Int32) r2.2 r hf
  · replace hf := sm_ift hc hf
    refine w_blk bX11_apart_7 [.ref 0, .retAddr 0] [.int (-3 : Int32)] (sm_hp r2.2) [] rfl (sm_on) ?_
    obtain rfl := Option.some.inj hf
    exact w_reti dX11_apart_9 rfl rfl
set_option maxRecDepth 10000 in
theorem tX11_walkersCorner {l : Launch} {al : Bool} (m : sm_S) (r : Int32) (hf : fX11_walkersCorner m = some r) : sm_Rt l mX11_walkersCorner 1 0 0 al al [.ref 0] (sm_hp m) (some (.int r), sm_hp m) := by
  refine sm_Rt.ofW (L := [.ref 0]) (by decide) (Nat.le_of_ble_eq_true rfl) rfl ?_
  unfold fX11_walkersCorner at hf
  refine w_blk bX11_walkersCorner_0 [.ref 0] [.int (m.1 3 0)] (sm_hp m) [] rfl (sm_on) ?_
  refine w_if_ne (tgt := 14) dX11_walkersCorner_7 rfl (fun hc => ?_) (fun hc => ?_)
  · replace hf := sm_iff hc hf
    refine w_blk bX11_walkersCorner_14 [.ref 0] [.int (m.1 16 0)] (sm_hp m) [] rfl (sm_on) ?_
    obtain rfl := Option.some.inj hf
    exact w_reti dX11_walkersCorner_21 rfl rfl
  · replace hf := sm_ift hc hf
    refine w_blk bX11_walkersCorner_10 [.ref 0] [.int (-1 : Int32)] (sm_hp m) [] rfl (sm_on) ?_
    refine w_goto (tgt := 21) dX11_walkersCorner_11 rfl ?_
    obtain rfl := Option.some.inj hf
    exact w_reti dX11_walkersCorner_21 rfl rfl
set_option maxRecDepth 10000 in
theorem tX6_toNextDay {l : Launch} {al : Bool} (m : sm_S) (r : Int32 × sm_S) (hf : fX6_toNextDay m = some r) : sm_Rt l mX6_toNextDay 2 0 0 al al [.ref 16, .ref 3] (sm_hp m) (some (.int r.1), sm_hp r.2) := by
  refine sm_Rt.ofW (L := [.ref 16, .ref 3, .retAddr 0]) (by decide) (Nat.le_of_ble_eq_true rfl) rfl ?_
  unfold fX6_toNextDay at hf
  refine w_blk bX6_toNextDay_0 [.ref 16, .ref 3, .retAddr 0] [.ref 16] (sm_hp m) [] rfl (sm_on) ?_
  replace hf := sm_bd hf
  obtain ⟨r2, q1, hf⟩ := hf
  refine w_callV [] [] (tX6_day m r2 q1) (cvX6_22 rfl) dX6_toNextDay_1 rfl rfl (by decide) (by decide) rfl (Nat.le_of_ble_eq_true rfl) ?_
  show sm_W _ _ _ _ _ 4 [.ref 16, .ref 3, .retAddr 0] [.int r2] (sm_hp m)
  refine w_blk bX6_toNextDay_4 [.ref 16, .ref 3, .int ((r2 + (1 : Int32)) * (60 : Int32))] [.int (m.1 3 3), .int ((r2 + (1 : Int32)) * (60 : Int32))] (sm_hp m) [] rfl (sm_on) ?_
  refine w_icmp_le (tgt := 35) dX6_toNextDay_15 rfl (fun hc => ?_) (fun hc => ?_)
  · replace hf := sm_ift hc hf
    refine w_blk bX6_toNextDay_35 [.ref 16, .ref 3, .int ((r2 + (1 : Int32)) * (60 : Int32))] [.int (1 : Int32)] (sm_hp (sm_w1 m 16 1 ((r2 + (1 : Int32)) * (60 : Int32)))) [] rfl (sm_on) ?_
    obtain rfl := Option.some.inj hf
    exact w_reti dX6_toNextDay_41 rfl sm_nb1
  · replace hf := sm_iff hc hf
    refine w_blk bX6_toNextDay_18 [.ref 16, .ref 3, .int ((r2 + (1 : Int32)) * (60 : Int32))] [.int (0 : Int32)] (sm_hp (sm_w1 m 16 1 (if (m.1 16 1) < (m.1 3 3) then (m.1 3 3) else (m.1 16 1)))) [] rfl (sm_on) ?_
    obtain rfl := Option.some.inj hf
    exact w_reti dX6_toNextDay_34 rfl sm_nb0
set_option maxRecDepth 10000 in
theorem tX6_dearest_4 {l : Launch} {al : Bool} : ∀ (n : Nat) (v2 : Int32) (v3 : Int32) (m : sm_S) (r : Int32), fX6_dearest_4 n v2 v3 m = some r → sm_W l mX6_dearest 4 al (some (.int r), sm_hp m) 4 [.ref 16, .ref 3, .int v2, .int v3, .retAddr 0] [] (sm_hp m) := by
  intro n
  induction n with
  | zero =>
    intro v2 v3 m r hf
    unfold fX6_dearest_4 at hf
    cases hf
  | succ n ih =>
    intro v2 v3 m r hf
    unfold fX6_dearest_4 at hf
    refine w_blk bX6_dearest_4 [.ref 16, .ref 3, .int v2, .int v3, .retAddr 0] [.int (m.1 3 1), .int v3] (sm_hp m) [] rfl (sm_on) ?_
    refine w_icmp_ge (tgt := 61) dX6_dearest_9 rfl (fun hc => ?_) (fun hc => ?_)
    · replace hf := sm_ift hc hf
      refine w_blk bX6_dearest_61 [.ref 16, .ref 3, .int v2, .int v3, .retAddr 0] [.int v2] (sm_hp m) [] rfl (sm_on) ?_
      obtain rfl := Option.some.inj hf
      exact w_reti dX6_dearest_62 rfl rfl
    · replace hf := sm_iff hc hf
      refine w_blk bX6_dearest_12 [.ref 16, .ref 3, .int v2, .int v3, .retAddr 0] [.int (-1 : Int32), .int v2] (sm_hp m) [] rfl (sm_on) ?_
      refine w_icmp_eq (tgt := 32) dX6_dearest_14 rfl (fun hc => ?_) (fun hc => ?_)
      · replace hf := sm_ift hc hf
        refine w_blk bX6_dearest_32 [.ref 16, .ref 3, .int v2, .int v3, .retAddr 0] [.int (1 : Int32)] (sm_hp m) [] rfl (sm_on) ?_
        refine w_goto (tgt := 37) dX6_dearest_33 rfl ?_
        refine w_blk bX6_dearest_37 [.ref 16, .ref 3, .int v2, .int v3, .int (1 : Int32)] [.int (1 : Int32)] (sm_hp m) [] rfl (sm_on) ?_
        refine w_if_eq (tgt := 55) dX6_dearest_41 rfl (fun hc => absurd hc (by decide)) (fun _ => ?_)
        refine w_blk bX6_dearest_44 [.ref 16, .ref 3, .int v2, .int v3, .int (1 : Int32)] [.int v3, .ref 3, .ref 16] (sm_hp m) [] rfl (sm_on) ?_
        replace hf := sm_bd hf
        obtain ⟨r2, q1, hf⟩ := hf
        refine w_callV [.ref 3, .int v3] [] (tX6_whyNot v3 m r2 q1) (cvX6_63 rfl) dX6_dearest_47 rfl rfl (by decide) (by decide) rfl (Nat.le_of_ble_eq_true rfl) ?_
        show sm_W _ _ _ _ _ 50 [.ref 16, .ref 3, .int v2, .int v3, .int (1 : Int32)] [.int r2] (sm_hp m)
        refine w_if_ne (tgt := 55) dX6_dearest_50 rfl (fun hc => ?_) (fun hc => ?_)
        · replace hf := sm_iff hc hf
          refine w_blk bX6_dearest_55 [.ref 16, .ref 3, .int v2, .int (v3 + (1 : Int32)), .int (1 : Int32)] [] (sm_hp m) [] rfl (sm_on) ?_
          refine w_goto (tgt := 4) dX6_dearest_58 rfl ?_
          refine w_wk [true, true, true, true, false] ?_
          exact ih v2 (v3 + (1 : Int32)) m r hf
        · replace hf := sm_ift hc hf
          refine w_blk bX6_dearest_53 [.ref 16, .ref 3, .int v3, .int v3, .int (1 : Int32)] [] (sm_hp m) [] rfl (sm_on) ?_
          refine w_blk bX6_dearest_55 [.ref 16, .ref 3, .int v3, .int (v3 + (1 : Int32)), .int (1 : Int32)] [] (sm_hp m) [] rfl (sm_on) ?_
          refine w_goto (tgt := 4) dX6_dearest_58 rfl ?_
          refine w_wk [true, true, true, true, false] ?_
          exact ih v3 (v3 + (1 : Int32)) m r hf
      · replace hf := sm_iff hc hf
        replace hf := sm_ck hf
        obtain ⟨q3, hf⟩ := hf
        replace hf := sm_ck hf
        obtain ⟨q4, hf⟩ := hf
        refine w_blk bX6_dearest_17 [.ref 16, .ref 3, .int v2, .int v3, .retAddr 0] [.int (m.1 11 (v2).toNatClampNeg), .int (m.1 11 (v3).toNatClampNeg)] (sm_hp m) [(v3, 14), (v2, 14)] rfl (sm_oc q3 (sm_oc q4 (sm_on))) ?_
        refine w_icmp_le (tgt := 36) dX6_dearest_29 rfl (fun hc => ?_) (fun hc => ?_)
        · replace hf := sm_ift hc hf
          refine w_blk bX6_dearest_36 [.ref 16, .ref 3, .int v2, .int v3, .retAddr 0] [.int (0 : Int32)] (sm_hp m) [] rfl (sm_on) ?_
          refine w_blk bX6_dearest_37 [.ref 16, .ref 3, .int v2, .int v3, .int (0 : Int32)] [.int (0 : Int32)] (sm_hp m) [] rfl (sm_on) ?_
          refine w_if_eq (tgt := 55) dX6_dearest_41 rfl (fun _ => ?_) (fun hc => absurd hc (by decide))
          refine w_blk bX6_dearest_55 [.ref 16, .ref 3, .int v2, .int (v3 + (1 : Int32)), .int (0 : Int32)] [] (sm_hp m) [] rfl (sm_on) ?_
          refine w_goto (tgt := 4) dX6_dearest_58 rfl ?_
          refine w_wk [true, true, true, true, false] ?_
          exact ih v2 (v3 + (1 : Int32)) m r hf
        · replace hf := sm_iff hc hf
          refine w_blk bX6_dearest_32 [.ref 16, .ref 3, .int v2, .int v3, .retAddr 0] [.int (1 : Int32)] (sm_hp m) [] rfl (sm_on) ?_
          refine w_goto (tgt := 37) dX6_dearest_33 rfl ?_
          refine w_blk bX6_dearest_37 [.ref 16, .ref 3, .int v2, .int v3, .int (1 : Int32)] [.int (1 : Int32)] (sm_hp m) [] rfl (sm_on) ?_
          refine w_if_eq (tgt := 55) dX6_dearest_41 rfl (fun hc => absurd hc (by decide)) (fun _ => ?_)
          refine w_blk bX6_dearest_44 [.ref 16, .ref 3, .int v2, .int v3, .int (1 : Int32)] [.int v3, .ref 3, .ref 16] (sm_hp m) [] rfl (sm_on) ?_
          replace hf := sm_bd hf
          obtain ⟨r6, q5, hf⟩ := hf
          refine w_callV [.ref 3, .int v3] [] (tX6_whyNot v3 m r6 q5) (cvX6_63 rfl) dX6_dearest_47 rfl rfl (by decide) (by decide) rfl (Nat.le_of_ble_eq_true rfl) ?_
          show sm_W _ _ _ _ _ 50 [.ref 16, .ref 3, .int v2, .int v3, .int (1 : Int32)] [.int r6] (sm_hp m)
          refine w_if_ne (tgt := 55) dX6_dearest_50 rfl (fun hc => ?_) (fun hc => ?_)
          · replace hf := sm_iff hc hf
            refine w_blk bX6_dearest_55 [.ref 16, .ref 3, .int v2, .int (v3 + (1 : Int32)), .int (1 : Int32)] [] (sm_hp m) [] rfl (sm_on) ?_
            refine w_goto (tgt := 4) dX6_dearest_58 rfl ?_
            refine w_wk [true, true, true, true, false] ?_
            exact ih v2 (v3 + (1 : Int32)) m r hf
          · replace hf := sm_ift hc hf
            refine w_blk bX6_dearest_53 [.ref 16, .ref 3, .int v3, .int v3, .int (1 : Int32)] [] (sm_hp m) [] rfl (sm_on) ?_
            refine w_blk bX6_dearest_55 [.ref 16, .ref 3, .int v3, .int (v3 + (1 : Int32)), .int (1 : Int32)] [] (sm_hp m) [] rfl (sm_on) ?_
            refine w_goto (tgt := 4) dX6_dearest_58 rfl ?_
            refine w_wk [true, true, true, true, false] ?_
            exact ih v3 (v3 + (1 : Int32)) m r hf
set_option maxRecDepth 10000 in
theorem tX6_dearest {l : Launch} {al : Bool} (m : sm_S) (r : Int32) (hf : fX6_dearest m = some r) : sm_Rt l mX6_dearest 4 0 0 al al [.ref 16, .ref 3] (sm_hp m) (some (.int r), sm_hp m) := by
  refine sm_Rt.ofW (L := [.ref 16, .ref 3, .retAddr 0, .retAddr 0, .retAddr 0]) (by decide) (Nat.le_of_ble_eq_true rfl) rfl ?_
  unfold fX6_dearest at hf
  refine w_blk bX6_dearest_0 [.ref 16, .ref 3, .int (-1 : Int32), .int (0 : Int32), .retAddr 0] [] (sm_hp m) [] rfl (sm_on) ?_
  exact tX6_dearest_4 sm_fu (-1 : Int32) (0 : Int32) m r hf
set_option maxRecDepth 10000 in
theorem tX11_season_61 {l : Launch} {al : Bool} : ∀ (n : Nat) (v1 : Int32) (v2 : Int32) (v3 : Int32) (v4 : Int32) (v5 : Int32) (v6 : Int32) (m : sm_S) (r : Int32 × sm_S), fX11_season_61 n v1 v2 v3 v4 v5 v6 m = some r → sm_W l mX11_season 5 al (some (.int r.1), sm_hp r.2) 61 [.ref 0, .int v1, .int v2, .int v3, .int v4, .int v5, .int v6, .retAddr 0] [] (sm_hp m) := by
  intro n
  induction n with
  | zero =>
    intro v1 v2 v3 v4 v5 v6 m r hf
    unfold fX11_season_61 at hf
    cases hf
  | succ n ih =>
    intro v1 v2 v3 v4 v5 v6 m r hf
    unfold fX11_season_61 at hf
    refine w_blk bX11_season_61 [.ref 0, .int v1, .int v2, .int v3, .int v4, .int v5, .int v6, .retAddr 0] [.int (10059 : Int32), .int v6] (sm_hp m) [] rfl (sm_on) ?_
    refine w_icmp_gt (tgt := 168) dX11_season_66 rfl (fun hc => ?_) (fun hc => ?_)
    · replace hf := sm_ift hc hf
      refine w_blk bX11_season_168 [.ref 0, .int v1, .int v2, .int v3, .int v4, .int v5, .int v6, .retAddr 0] [.int v3, .ref 14] (sm_hp m) [] rfl (sm_on) ?_
      replace hf := sm_bd hf
      obtain ⟨m4, q3, hf⟩ := hf
      refine w_callV [.int v3] [] (tX5_tell v3 m m4 q3) (cvX11_224 rfl) dX11_season_173 rfl rfl (by decide) (by decide) rfl (Nat.le_of_ble_eq_true rfl) ?_
      show sm_W _ _ _ _ _ 176 [.ref 0, .int v1, .int v2, .int v3, .int v4, .int v5, .int v6, .retAddr 0] [] (sm_hp m4)
      refine w_blk bX11_season_176 [.ref 0, .int v1, .int v2, .int v3, .int v4, .int v5, .int v6, .retAddr 0] [.ref 0, .ref 14] (sm_hp m4) [] rfl (sm_on) ?_
      replace hf := sm_bd hf
      obtain ⟨r6, q5, hf⟩ := hf
      refine w_callV [] [.ref 14] (tX11_walkersCorner m4 r6 q5) (cvX11_267 rfl) dX11_season_181 rfl rfl (by decide) (by decide) rfl (Nat.le_of_ble_eq_true rfl) ?_
      show sm_W _ _ _ _ _ 184 [.ref 0, .int v1, .int v2, .int v3, .int v4, .int v5, .int v6, .retAddr 0] [.int r6, .ref 14] (sm_hp m4)
      replace hf := sm_bd hf
      obtain ⟨m8, q7, hf⟩ := hf
      refine w_callV [.int r6] [] (tX5_add r6 m4 m8 q7) (cvX11_231 rfl) dX11_season_184 rfl rfl (by decide) (by decide) rfl (Nat.le_of_ble_eq_true rfl) ?_
      show sm_W _ _ _ _ _ 187 [.ref 0, .int v1, .int v2, .int v3, .int v4, .int v5, .int v6, .retAddr 0] [] (sm_hp m8)
      refine w_blk bX11_season_187 [.ref 0, .int v1, .int v2, .int v3, .int v4, .int v5, .int v6, .retAddr 0] [.int v2] (sm_hp m8) [] rfl (sm_on) ?_
      obtain rfl := Option.some.inj hf
      exact w_reti dX11_season_188 rfl rfl
    · replace hf := sm_iff hc hf
      refine w_blk bX11_season_69 [.ref 0, .int v1, .int v2, .int v3, .int v4, .int v5, .int v6, .retAddr 0] [.int v5] (sm_hp m) [] rfl (sm_on) ?_
      refine w_if_eq (tgt := 168) dX11_season_71 rfl (fun hc => ?_) (fun hc => ?_)
      · replace hf := sm_ift hc hf
        refine w_blk bX11_season_168 [.ref 0, .int v1, .int v2, .int v3, .int v4, .int v5, .int v6, .retAddr 0] [.int v3, .ref 14] (sm_hp m) [] rfl (sm_on) ?_
        replace hf := sm_bd hf
        obtain ⟨m10, q9, hf⟩ := hf
        refine w_callV [.int v3] [] (tX5_tell v3 m m10 q9) (cvX11_224 rfl) dX11_season_173 rfl rfl (by decide) (by decide) rfl (Nat.le_of_ble_eq_true rfl) ?_
        show sm_W _ _ _ _ _ 176 [.ref 0, .int v1, .int v2, .int v3, .int v4, .int v5, .int v6, .retAddr 0] [] (sm_hp m10)
        refine w_blk bX11_season_176 [.ref 0, .int v1, .int v2, .int v3, .int v4, .int v5, .int v6, .retAddr 0] [.ref 0, .ref 14] (sm_hp m10) [] rfl (sm_on) ?_
        replace hf := sm_bd hf
        obtain ⟨r12, q11, hf⟩ := hf
        refine w_callV [] [.ref 14] (tX11_walkersCorner m10 r12 q11) (cvX11_267 rfl) dX11_season_181 rfl rfl (by decide) (by decide) rfl (Nat.le_of_ble_eq_true rfl) ?_
        show sm_W _ _ _ _ _ 184 [.ref 0, .int v1, .int v2, .int v3, .int v4, .int v5, .int v6, .retAddr 0] [.int r12, .ref 14] (sm_hp m10)
        replace hf := sm_bd hf
        obtain ⟨m14, q13, hf⟩ := hf
        refine w_callV [.int r12] [] (tX5_add r12 m10 m14 q13) (cvX11_231 rfl) dX11_season_184 rfl rfl (by decide) (by decide) rfl (Nat.le_of_ble_eq_true rfl) ?_
        show sm_W _ _ _ _ _ 187 [.ref 0, .int v1, .int v2, .int v3, .int v4, .int v5, .int v6, .retAddr 0] [] (sm_hp m14)
        refine w_blk bX11_season_187 [.ref 0, .int v1, .int v2, .int v3, .int v4, .int v5, .int v6, .retAddr 0] [.int v2] (sm_hp m14) [] rfl (sm_on) ?_
        obtain rfl := Option.some.inj hf
        exact w_reti dX11_season_188 rfl rfl
      · replace hf := sm_iff hc hf
        refine w_blk bX11_season_74 [.ref 0, .int v1, .int v2, .int v3, .int v4, .int v5, .int v6, .retAddr 0] [.int v1, .int v4] (sm_hp m) [] rfl (sm_on) ?_
        refine w_icmp_ge (tgt := 168) dX11_season_77 rfl (fun hc => ?_) (fun hc => ?_)
        · replace hf := sm_ift hc hf
          refine w_blk bX11_season_168 [.ref 0, .int v1, .int v2, .int v3, .int v4, .int v5, .int v6, .retAddr 0] [.int v3, .ref 14] (sm_hp m) [] rfl (sm_on) ?_
          replace hf := sm_bd hf
          obtain ⟨m16, q15, hf⟩ := hf
          refine w_callV [.int v3] [] (tX5_tell v3 m m16 q15) (cvX11_224 rfl) dX11_season_173 rfl rfl (by decide) (by decide) rfl (Nat.le_of_ble_eq_true rfl) ?_
          show sm_W _ _ _ _ _ 176 [.ref 0, .int v1, .int v2, .int v3, .int v4, .int v5, .int v6, .retAddr 0] [] (sm_hp m16)
          refine w_blk bX11_season_176 [.ref 0, .int v1, .int v2, .int v3, .int v4, .int v5, .int v6, .retAddr 0] [.ref 0, .ref 14] (sm_hp m16) [] rfl (sm_on) ?_
          replace hf := sm_bd hf
          obtain ⟨r18, q17, hf⟩ := hf
          refine w_callV [] [.ref 14] (tX11_walkersCorner m16 r18 q17) (cvX11_267 rfl) dX11_season_181 rfl rfl (by decide) (by decide) rfl (Nat.le_of_ble_eq_true rfl) ?_
          show sm_W _ _ _ _ _ 184 [.ref 0, .int v1, .int v2, .int v3, .int v4, .int v5, .int v6, .retAddr 0] [.int r18, .ref 14] (sm_hp m16)
          replace hf := sm_bd hf
          obtain ⟨m20, q19, hf⟩ := hf
          refine w_callV [.int r18] [] (tX5_add r18 m16 m20 q19) (cvX11_231 rfl) dX11_season_184 rfl rfl (by decide) (by decide) rfl (Nat.le_of_ble_eq_true rfl) ?_
          show sm_W _ _ _ _ _ 187 [.ref 0, .int v1, .int v2, .int v3, .int v4, .int v5, .int v6, .retAddr 0] [] (sm_hp m20)
          refine w_blk bX11_season_187 [.ref 0, .int v1, .int v2, .int v3, .int v4, .int v5, .int v6, .retAddr 0] [.int v2] (sm_hp m20) [] rfl (sm_on) ?_
          obtain rfl := Option.some.inj hf
          exact w_reti dX11_season_188 rfl rfl
        · replace hf := sm_iff hc hf
          refine w_blk bX11_season_80 [.ref 0, .int v1, .int v2, .int v3, .int v4, .int v5, .int v6, .retAddr 0] [.ref 16] (sm_hp m) [] rfl (sm_on) ?_
          replace hf := sm_bd hf
          obtain ⟨r22, q21, hf⟩ := hf
          refine w_callV [] [] (tX6_isLight m r22 q21) (cvX11_257 rfl) dX11_season_84 rfl rfl (by decide) (by decide) rfl (Nat.le_of_ble_eq_true rfl) ?_
          show sm_W _ _ _ _ _ 87 [.ref 0, .int v1, .int v2, .int v3, .int v4, .int v5, .int v6, .retAddr 0] [.int r22] (sm_hp m)
          refine w_if_eq (tgt := 104) dX11_season_87 rfl (fun hc => ?_) (fun hc => ?_)
          · replace hf := sm_ift hc hf
            refine w_blk bX11_season_104 [.ref 0, .int v1, .int v2, .int v3, .int v4, .int v5, .int v6, .retAddr 0] [.int (-1 : Int32)] (sm_hp m) [] rfl (sm_on) ?_
            refine w_blk bX11_season_105 [.ref 0, .int v1, .int v2, .int v3, .int v4, .int v5, .int v6, .int (-1 : Int32)] [.int (-1 : Int32), .int (-1 : Int32)] (sm_hp m) [] rfl (sm_on) ?_
            refine w_icmp_ne (tgt := 132) dX11_season_110 rfl (fun hc => absurd hc (by decide)) (fun _ => ?_)
            refine w_blk bX11_season_113 [.ref 0, .int v1, .int v2, .int v3, .int (v4 + (1 : Int32)), .int v5, .int v6, .int (-1 : Int32)] [.ref 3, .ref 16] (sm_hp m) [] rfl (sm_on) ?_
            replace hf := sm_bd hf
            obtain ⟨r24, q23, hf⟩ := hf
            refine w_callV [.ref 3] [] (tX6_toNextDay m r24 q23) (cvX11_260 rfl) dX11_season_124 rfl rfl (by decide) (by decide) rfl (Nat.le_of_ble_eq_true rfl) ?_
            show sm_W _ _ _ _ _ 127 [.ref 0, .int v1, .int v2, .int v3, .int (v4 + (1 : Int32)), .int v5, .int v6, .int (-1 : Int32)] [.int r24.1] (sm_hp r24.2)
            refine w_blk bX11_season_127 [.ref 0, .int v1, .int v2, .int v3, .int (v4 + (1 : Int32)), .int r24.1, .int v6, .int (-1 : Int32)] [] (sm_hp r24.2) [] rfl (sm_on) ?_
            refine w_goto (tgt := 162) dX11_season_129 rfl ?_
            refine w_blk bX11_season_162 [.ref 0, .int v1, .int v2, .int v3, .int (v4 + (1 : Int32)), .int r24.1, .int (v6 + (1 : Int32)), .int (-1 : Int32)] [] (sm_hp r24.2) [] rfl (sm_on) ?_
            refine w_goto (tgt := 61) dX11_season_165 rfl ?_
            refine w_wk [true, true, true, true, true, true, true, false] ?_
            exact ih v1 v2 v3 (v4 + (1 : Int32)) r24.1 (v6 + (1 : Int32)) r24.2 r hf
          · replace hf := sm_iff hc hf
            refine w_blk bX11_season_90 [.ref 0, .int v1, .int v2, .int v3, .int v4, .int v5, .int v6, .retAddr 0] [.ref 3, .ref 16] (sm_hp m) [] rfl (sm_on) ?_
            replace hf := sm_bd hf
            obtain ⟨r26, q25, hf⟩ := hf
            refine w_callV [.ref 3] [] (tX6_dearest m r26 q25) (cvX11_264 rfl) dX11_season_98 rfl rfl (by decide) (by decide) rfl (Nat.le_of_ble_eq_true rfl) ?_
            show sm_W _ _ _ _ _ 101 [.ref 0, .int v1, .int v2, .int v3, .int v4, .int v5, .int v6, .retAddr 0] [.int r26] (sm_hp m)
            refine w_goto (tgt := 105) dX11_season_101 rfl ?_
            refine w_blk bX11_season_105 [.ref 0, .int v1, .int v2, .int v3, .int v4, .int v5, .int v6, .int r26] [.int (-1 : Int32), .int r26] (sm_hp m) [] rfl (sm_on) ?_
            refine w_icmp_ne (tgt := 132) dX11_season_110 rfl (fun hc => ?_) (fun hc => ?_)
            · replace hf := sm_iff hc hf
              refine w_blk bX11_season_132 [.ref 0, .int v1, .int v2, .int v3, .int v4, .int v5, .int v6, .int r26] [.int r26, .ref 3, .ref 16] (sm_hp m) [] rfl (sm_on) ?_
              replace hf := sm_bd hf
              obtain ⟨r28, q27, hf⟩ := hf
              refine w_callV [.ref 3, .int r26] [] (tX6_step r26 m r28 q27) (cvX11_190 rfl) dX11_season_142 rfl rfl (by decide) (by decide) rfl (Nat.le_of_ble_eq_true rfl) ?_
              show sm_W _ _ _ _ _ 145 [.ref 0, .int v1, .int v2, .int v3, .int v4, .int v5, .int v6, .int r26] [.int r28.1] (sm_hp r28.2)
              replace hf := sm_ck hf
              obtain ⟨q29, hf⟩ := hf
              refine w_blk bX11_season_145 [.ref 0, .int v1, .int (v2 + (1 : Int32)), .int (v3 + (r28.2.1 11 (r26).toNatClampNeg)), .int v4, .int v5, .int v6, .int r26] [] (sm_hp r28.2) [(r26, 14)] rfl (sm_oc q29 (sm_on)) ?_
              refine w_blk bX11_season_162 [.ref 0, .int v1, .int (v2 + (1 : Int32)), .int (v3 + (r28.2.1 11 (r26).toNatClampNeg)), .int v4, .int v5, .int (v6 + (1 : Int32)), .int r26] [] (sm_hp r28.2) [] rfl (sm_on) ?_
              refine w_goto (tgt := 61) dX11_season_165 rfl ?_
              refine w_wk [true, true, true, true, true, true, true, false] ?_
              exact ih v1 (v2 + (1 : Int32)) (v3 + (r28.2.1 11 (r26).toNatClampNeg)) v4 v5 (v6 + (1 : Int32)) r28.2 r hf
            · replace hf := sm_ift hc hf
              refine w_blk bX11_season_113 [.ref 0, .int v1, .int v2, .int v3, .int (v4 + (1 : Int32)), .int v5, .int v6, .int r26] [.ref 3, .ref 16] (sm_hp m) [] rfl (sm_on) ?_
              replace hf := sm_bd hf
              obtain ⟨r31, q30, hf⟩ := hf
              refine w_callV [.ref 3] [] (tX6_toNextDay m r31 q30) (cvX11_260 rfl) dX11_season_124 rfl rfl (by decide) (by decide) rfl (Nat.le_of_ble_eq_true rfl) ?_
              show sm_W _ _ _ _ _ 127 [.ref 0, .int v1, .int v2, .int v3, .int (v4 + (1 : Int32)), .int v5, .int v6, .int r26] [.int r31.1] (sm_hp r31.2)
              refine w_blk bX11_season_127 [.ref 0, .int v1, .int v2, .int v3, .int (v4 + (1 : Int32)), .int r31.1, .int v6, .int r26] [] (sm_hp r31.2) [] rfl (sm_on) ?_
              refine w_goto (tgt := 162) dX11_season_129 rfl ?_
              refine w_blk bX11_season_162 [.ref 0, .int v1, .int v2, .int v3, .int (v4 + (1 : Int32)), .int r31.1, .int (v6 + (1 : Int32)), .int r26] [] (sm_hp r31.2) [] rfl (sm_on) ?_
              refine w_goto (tgt := 61) dX11_season_165 rfl ?_
              refine w_wk [true, true, true, true, true, true, true, false] ?_
              exact ih v1 v2 v3 (v4 + (1 : Int32)) r31.1 (v6 + (1 : Int32)) r31.2 r hf
set_option maxRecDepth 10000 in
theorem tX11_season {l : Launch} {al : Bool} (x1 : Int32) (m : sm_S) (r : Int32 × sm_S) (hf : fX11_season x1 m = some r) : sm_Rt l mX11_season 5 0 0 al al [.ref 0, .int x1] (sm_hp m) (some (.int r.1), sm_hp r.2) := by
  refine sm_Rt.ofW (L := [.ref 0, .int x1, .retAddr 0, .retAddr 0, .retAddr 0, .retAddr 0, .retAddr 0, .retAddr 0]) (by decide) (Nat.le_of_ble_eq_true rfl) rfl ?_
  unfold fX11_season at hf
  refine w_blk bX11_season_0 [.ref 0, .int x1, .retAddr 0, .retAddr 0, .retAddr 0, .retAddr 0, .retAddr 0, .retAddr 0] [.int x1] (sm_hp m) [] rfl (sm_on) ?_
  refine w_if_lt (tgt := 10) dX11_season_1 rfl (fun hc => ?_) (fun hc => ?_)
  · replace hf := sm_ift hc hf
    refine w_blk bX11_season_10 [.ref 0, .int x1, .retAddr 0, .retAddr 0, .retAddr 0, .retAddr 0, .retAddr 0, .retAddr 0] [.int (-1 : Int32)] (sm_hp m) [] rfl (sm_on) ?_
    obtain rfl := Option.some.inj hf
    exact w_reti dX11_season_11 rfl rfl
  · replace hf := sm_iff hc hf
    refine w_blk bX11_season_4 [.ref 0, .int x1, .retAddr 0, .retAddr 0, .retAddr 0, .retAddr 0, .retAddr 0, .retAddr 0] [.int (60 : Int32), .int x1] (sm_hp m) [] rfl (sm_on) ?_
    refine w_icmp_le (tgt := 12) dX11_season_7 rfl (fun hc => ?_) (fun hc => ?_)
    · replace hf := sm_ift hc hf
      refine w_blk bX11_season_12 [.ref 0, .int x1, .int (0 : Int32), .int (0 : Int32), .int (0 : Int32), .retAddr 0, .retAddr 0, .retAddr 0] [.ref 16] (sm_hp (sm_w1 m 20 0 (0 : Int32))) [] rfl (sm_on) ?_
      replace hf := sm_bd hf
      obtain ⟨r2, q1, hf⟩ := hf
      refine w_callV [] [] (tX6_isLight (sm_w1 m 20 0 (0 : Int32)) r2 q1) (cvX11_257 rfl) dX11_season_31 rfl rfl (by decide) (by decide) rfl (Nat.le_of_ble_eq_true rfl) ?_
      show sm_W _ _ _ _ _ 34 [.ref 0, .int x1, .int (0 : Int32), .int (0 : Int32), .int (0 : Int32), .retAddr 0, .retAddr 0, .retAddr 0] [.int r2] (sm_hp (sm_w1 m 20 0 (0 : Int32)))
      refine w_if_ne (tgt := 51) dX11_season_34 rfl (fun hc => ?_) (fun hc => ?_)
      · replace hf := sm_iff hc hf
        refine w_blk bX11_season_51 [.ref 0, .int x1, .int (0 : Int32), .int (0 : Int32), .int (0 : Int32), .retAddr 0, .retAddr 0, .retAddr 0] [.int (1 : Int32)] (sm_hp (sm_w1 m 20 0 (0 : Int32))) [] rfl (sm_on) ?_
        refine w_goto (tgt := 56) dX11_season_52 rfl ?_
        refine w_blk bX11_season_56 [.ref 0, .int x1, .int (0 : Int32), .int (0 : Int32), .int (0 : Int32), .int (1 : Int32), .int (0 : Int32), .retAddr 0] [] (sm_hp (sm_w1 m 20 0 (0 : Int32))) [] rfl (sm_on) ?_
        exact tX11_season_61 sm_fu x1 (0 : Int32) (0 : Int32) (0 : Int32) (1 : Int32) (0 : Int32) (sm_w1 m 20 0 (0 : Int32)) r hf
      · replace hf := sm_ift hc hf
        refine w_blk bX11_season_37 [.ref 0, .int x1, .int (0 : Int32), .int (0 : Int32), .int (0 : Int32), .retAddr 0, .retAddr 0, .retAddr 0] [.ref 3, .ref 16] (sm_hp (sm_w1 m 20 0 (0 : Int32))) [] rfl (sm_on) ?_
        replace hf := sm_bd hf
        obtain ⟨r33, q32, hf⟩ := hf
        refine w_callV [.ref 3] [] (tX6_toNextDay (sm_w1 m 20 0 (0 : Int32)) r33 q32) (cvX11_260 rfl) dX11_season_45 rfl rfl (by decide) (by decide) rfl (Nat.le_of_ble_eq_true rfl) ?_
        show sm_W _ _ _ _ _ 48 [.ref 0, .int x1, .int (0 : Int32), .int (0 : Int32), .int (0 : Int32), .retAddr 0, .retAddr 0, .retAddr 0] [.int r33.1] (sm_hp r33.2)
        refine w_if_eq (tgt := 55) dX11_season_48 rfl (fun hc => ?_) (fun hc => ?_)
        · replace hf := sm_ift hc hf
          refine w_blk bX11_season_55 [.ref 0, .int x1, .int (0 : Int32), .int (0 : Int32), .int (0 : Int32), .retAddr 0, .retAddr 0, .retAddr 0] [.int (0 : Int32)] (sm_hp r33.2) [] rfl (sm_on) ?_
          refine w_blk bX11_season_56 [.ref 0, .int x1, .int (0 : Int32), .int (0 : Int32), .int (0 : Int32), .int (0 : Int32), .int (0 : Int32), .retAddr 0] [] (sm_hp r33.2) [] rfl (sm_on) ?_
          exact tX11_season_61 sm_fu x1 (0 : Int32) (0 : Int32) (0 : Int32) (0 : Int32) (0 : Int32) r33.2 r hf
        · replace hf := sm_iff hc hf
          refine w_blk bX11_season_51 [.ref 0, .int x1, .int (0 : Int32), .int (0 : Int32), .int (0 : Int32), .retAddr 0, .retAddr 0, .retAddr 0] [.int (1 : Int32)] (sm_hp r33.2) [] rfl (sm_on) ?_
          refine w_goto (tgt := 56) dX11_season_52 rfl ?_
          refine w_blk bX11_season_56 [.ref 0, .int x1, .int (0 : Int32), .int (0 : Int32), .int (0 : Int32), .int (1 : Int32), .int (0 : Int32), .retAddr 0] [] (sm_hp r33.2) [] rfl (sm_on) ?_
          exact tX11_season_61 sm_fu x1 (0 : Int32) (0 : Int32) (0 : Int32) (1 : Int32) (0 : Int32) r33.2 r hf
    · replace hf := sm_iff hc hf
      refine w_blk bX11_season_10 [.ref 0, .int x1, .retAddr 0, .retAddr 0, .retAddr 0, .retAddr 0, .retAddr 0, .retAddr 0] [.int (-1 : Int32)] (sm_hp m) [] rfl (sm_on) ?_
      obtain rfl := Option.some.inj hf
      exact w_reti dX11_season_11 rfl rfl
set_option maxRecDepth 10000 in
theorem tX2_everyHedge {l : Launch} {al : Bool} (m : sm_S) (r : Int32) (hf : fX2_everyHedge m = some r) : sm_Rt l mX2_everyHedge 1 0 0 al al [.ref 3] (sm_hp m) (some (.int r), sm_hp m) := by
  refine sm_Rt.ofW (L := [.ref 3]) (by decide) (Nat.le_of_ble_eq_true rfl) rfl ?_
  unfold fX2_everyHedge at hf
  refine w_blk bX2_everyHedge_0 [.ref 3] [.int (((1 : Int32) <<< ((m.1 3 1) &&& 31)) - (1 : Int32))] (sm_hp m) [] rfl (sm_on) ?_
  obtain rfl := Option.some.inj hf
  exact w_reti dX2_everyHedge_8 rfl rfl
set_option maxRecDepth 10000 in
theorem tX2_endsOf {l : Launch} {al : Bool} (x1 : Int32) (m : sm_S) (r : Int32) (hf : fX2_endsOf x1 m = some r) : sm_Rt l mX2_endsOf 1 0 0 al al [.ref 3, .int x1] (sm_hp m) (some (.int r), sm_hp m) := by
  refine sm_Rt.ofW (L := [.ref 3, .int x1]) (by decide) (Nat.le_of_ble_eq_true rfl) rfl ?_
  unfold fX2_endsOf at hf
  replace hf := sm_ck hf
  obtain ⟨q1, hf⟩ := hf
  replace hf := sm_ck hf
  obtain ⟨q2, hf⟩ := hf
  refine w_blk bX2_endsOf_0 [.ref 3, .int x1] [.int (((1 : Int32) <<< ((m.1 6 (x1).toNatClampNeg) &&& 31)) ||| ((1 : Int32) <<< ((m.1 7 (x1).toNatClampNeg) &&& 31)))] (sm_hp m) [(x1, 14), (x1, 14)] rfl (sm_oc q1 (sm_oc q2 (sm_on))) ?_
  obtain rfl := Option.some.inj hf
  exact w_reti dX2_endsOf_17 rfl rfl
set_option maxRecDepth 10000 in
theorem tX2_oddCorners_4 {l : Launch} {al : Bool} : ∀ (n : Nat) (v1 : Int32) (v2 : Int32) (v3 : Int32) (m : sm_S) (r : Int32), fX2_oddCorners_4 n v1 v2 v3 m = some r → sm_W l mX2_oddCorners 2 al (some (.int r), sm_hp m) 4 [.ref 3, .int v1, .int v2, .int v3] [] (sm_hp m) := by
  intro n
  induction n with
  | zero =>
    intro v1 v2 v3 m r hf
    unfold fX2_oddCorners_4 at hf
    cases hf
  | succ n ih =>
    intro v1 v2 v3 m r hf
    unfold fX2_oddCorners_4 at hf
    refine w_blk bX2_oddCorners_4 [.ref 3, .int v1, .int v2, .int v3] [.int (m.1 3 1), .int v3] (sm_hp m) [] rfl (sm_on) ?_
    refine w_icmp_ge (tgt := 34) dX2_oddCorners_9 rfl (fun hc => ?_) (fun hc => ?_)
    · replace hf := sm_ift hc hf
      refine w_blk bX2_oddCorners_34 [.ref 3, .int v1, .int v2, .int v3] [.int v2] (sm_hp m) [] rfl (sm_on) ?_
      obtain rfl := Option.some.inj hf
      exact w_reti dX2_oddCorners_35 rfl rfl
    · replace hf := sm_iff hc hf
      refine w_blk bX2_oddCorners_12 [.ref 3, .int v1, .int v2, .int v3] [.int ((v1 >>> (v3 &&& 31)) &&& (1 : Int32))] (sm_hp m) [] rfl (sm_on) ?_
      refine w_if_eq (tgt := 28) dX2_oddCorners_17 rfl (fun hc => ?_) (fun hc => ?_)
      · replace hf := sm_ift hc hf
        refine w_blk bX2_oddCorners_28 [.ref 3, .int v1, .int v2, .int (v3 + (1 : Int32))] [] (sm_hp m) [] rfl (sm_on) ?_
        refine w_goto (tgt := 4) dX2_oddCorners_31 rfl ?_
        exact ih v1 v2 (v3 + (1 : Int32)) m r hf
      · replace hf := sm_iff hc hf
        refine w_blk bX2_oddCorners_20 [.ref 3, .int v1, .int v2, .int v3] [.int v3, .ref 3, .int v2] (sm_hp m) [] rfl (sm_on) ?_
        replace hf := sm_bd hf
        obtain ⟨r2, q1, hf⟩ := hf
        refine w_callV [.int v3] [.int v2] (tX2_endsOf v3 m r2 q1) (cvX2_62 rfl) dX2_oddCorners_23 rfl rfl (by decide) (by decide) rfl (Nat.le_of_ble_eq_true rfl) ?_
        show sm_W _ _ _ _ _ 26 [.ref 3, .int v1, .int v2, .int v3] [.int r2, .int v2] (sm_hp m)
        refine w_blk bX2_oddCorners_26 [.ref 3, .int v1, .int (v2 ^^^ r2), .int v3] [] (sm_hp m) [] rfl (sm_on) ?_
        refine w_blk bX2_oddCorners_28 [.ref 3, .int v1, .int (v2 ^^^ r2), .int (v3 + (1 : Int32))] [] (sm_hp m) [] rfl (sm_on) ?_
        refine w_goto (tgt := 4) dX2_oddCorners_31 rfl ?_
        exact ih v1 (v2 ^^^ r2) (v3 + (1 : Int32)) m r hf
set_option maxRecDepth 10000 in
theorem tX2_oddCorners {l : Launch} {al : Bool} (x1 : Int32) (m : sm_S) (r : Int32) (hf : fX2_oddCorners x1 m = some r) : sm_Rt l mX2_oddCorners 2 0 0 al al [.ref 3, .int x1] (sm_hp m) (some (.int r), sm_hp m) := by
  refine sm_Rt.ofW (L := [.ref 3, .int x1, .retAddr 0, .retAddr 0]) (by decide) (Nat.le_of_ble_eq_true rfl) rfl ?_
  unfold fX2_oddCorners at hf
  refine w_blk bX2_oddCorners_0 [.ref 3, .int x1, .int (0 : Int32), .int (0 : Int32)] [] (sm_hp m) [] rfl (sm_on) ?_
  exact tX2_oddCorners_4 sm_fu x1 (0 : Int32) (0 : Int32) m r hf
set_option maxRecDepth 10000 in
theorem tJ6_bitCount_0f7a4 {l : Launch} {al : Bool} (x1 : Int32) (m : sm_S) (r : Int32) (hf : fJ6_bitCount_0f7a4 x1 m = some r) : sm_Rt l mJ6_bitCount_0f7a4 1 0 0 al al [.int x1] (sm_hp m) (some (.int r), sm_hp m) := by
  refine sm_Rt.ofW (L := [.int x1]) (by decide) (Nat.le_of_ble_eq_true rfl) rfl ?_
  unfold fJ6_bitCount_0f7a4 at hf
  refine w_blk bJ6_bitCount_0f7a4_0 [.int (((((((x1 - (((x1.toUInt32 >>> ((1 : Int32).toUInt32 &&& Int32.toUInt32 31)).toInt32) &&& (1431655765 : Int32))) &&& (858993459 : Int32)) + ((((x1 - (((x1.toUInt32 >>> ((1 : Int32).toUInt32 &&& Int32.toUInt32 31)).toInt32) &&& (1431655765 : Int32))).toUInt32 >>> ((2 : Int32).toUInt32 &&& Int32.toUInt32 31)).toInt32) &&& (858993459 : Int32))) + (((((x1 - (((x1.toUInt32 >>> ((1 : Int32).toUInt32 &&& Int32.toUInt32 31)).toInt32) &&& (1431655765 : Int32))) &&& (858993459 : Int32)) + ((((x1 - (((x1.toUInt32 >>> ((1 : Int32).toUInt32 &&& Int32.toUInt32 31)).toInt32) &&& (1431655765 : Int32))).toUInt32 >>> ((2 : Int32).toUInt32 &&& Int32.toUInt32 31)).toInt32) &&& (858993459 : Int32))).toUInt32 >>> ((4 : Int32).toUInt32 &&& Int32.toUInt32 31)).toInt32)) &&& (252645135 : Int32)) + (((((((x1 - (((x1.toUInt32 >>> ((1 : Int32).toUInt32 &&& Int32.toUInt32 31)).toInt32) &&& (1431655765 : Int32))) &&& (858993459 : Int32)) + ((((x1 - (((x1.toUInt32 >>> ((1 : Int32).toUInt32 &&& Int32.toUInt32 31)).toInt32) &&& (1431655765 : Int32))).toUInt32 >>> ((2 : Int32).toUInt32 &&& Int32.toUInt32 31)).toInt32) &&& (858993459 : Int32))) + (((((x1 - (((x1.toUInt32 >>> ((1 : Int32).toUInt32 &&& Int32.toUInt32 31)).toInt32) &&& (1431655765 : Int32))) &&& (858993459 : Int32)) + ((((x1 - (((x1.toUInt32 >>> ((1 : Int32).toUInt32 &&& Int32.toUInt32 31)).toInt32) &&& (1431655765 : Int32))).toUInt32 >>> ((2 : Int32).toUInt32 &&& Int32.toUInt32 31)).toInt32) &&& (858993459 : Int32))).toUInt32 >>> ((4 : Int32).toUInt32 &&& Int32.toUInt32 31)).toInt32)) &&& (252645135 : Int32)).toUInt32 >>> ((8 : Int32).toUInt32 &&& Int32.toUInt32 31)).toInt32)) + ((((((((x1 - (((x1.toUInt32 >>> ((1 : Int32).toUInt32 &&& Int32.toUInt32 31)).toInt32) &&& (1431655765 : Int32))) &&& (858993459 : Int32)) + ((((x1 - (((x1.toUInt32 >>> ((1 : Int32).toUInt32 &&& Int32.toUInt32 31)).toInt32) &&& (1431655765 : Int32))).toUInt32 >>> ((2 : Int32).toUInt32 &&& Int32.toUInt32 31)).toInt32) &&& (858993459 : Int32))) + (((((x1 - (((x1.toUInt32 >>> ((1 : Int32).toUInt32 &&& Int32.toUInt32 31)).toInt32) &&& (1431655765 : Int32))) &&& (858993459 : Int32)) + ((((x1 - (((x1.toUInt32 >>> ((1 : Int32).toUInt32 &&& Int32.toUInt32 31)).toInt32) &&& (1431655765 : Int32))).toUInt32 >>> ((2 : Int32).toUInt32 &&& Int32.toUInt32 31)).toInt32) &&& (858993459 : Int32))).toUInt32 >>> ((4 : Int32).toUInt32 &&& Int32.toUInt32 31)).toInt32)) &&& (252645135 : Int32)) + (((((((x1 - (((x1.toUInt32 >>> ((1 : Int32).toUInt32 &&& Int32.toUInt32 31)).toInt32) &&& (1431655765 : Int32))) &&& (858993459 : Int32)) + ((((x1 - (((x1.toUInt32 >>> ((1 : Int32).toUInt32 &&& Int32.toUInt32 31)).toInt32) &&& (1431655765 : Int32))).toUInt32 >>> ((2 : Int32).toUInt32 &&& Int32.toUInt32 31)).toInt32) &&& (858993459 : Int32))) + (((((x1 - (((x1.toUInt32 >>> ((1 : Int32).toUInt32 &&& Int32.toUInt32 31)).toInt32) &&& (1431655765 : Int32))) &&& (858993459 : Int32)) + ((((x1 - (((x1.toUInt32 >>> ((1 : Int32).toUInt32 &&& Int32.toUInt32 31)).toInt32) &&& (1431655765 : Int32))).toUInt32 >>> ((2 : Int32).toUInt32 &&& Int32.toUInt32 31)).toInt32) &&& (858993459 : Int32))).toUInt32 >>> ((4 : Int32).toUInt32 &&& Int32.toUInt32 31)).toInt32)) &&& (252645135 : Int32)).toUInt32 >>> ((8 : Int32).toUInt32 &&& Int32.toUInt32 31)).toInt32)).toUInt32 >>> ((16 : Int32).toUInt32 &&& Int32.toUInt32 31)).toInt32))] [.int ((((((((x1 - (((x1.toUInt32 >>> ((1 : Int32).toUInt32 &&& Int32.toUInt32 31)).toInt32) &&& (1431655765 : Int32))) &&& (858993459 : Int32)) + ((((x1 - (((x1.toUInt32 >>> ((1 : Int32).toUInt32 &&& Int32.toUInt32 31)).toInt32) &&& (1431655765 : Int32))).toUInt32 >>> ((2 : Int32).toUInt32 &&& Int32.toUInt32 31)).toInt32) &&& (858993459 : Int32))) + (((((x1 - (((x1.toUInt32 >>> ((1 : Int32).toUInt32 &&& Int32.toUInt32 31)).toInt32) &&& (1431655765 : Int32))) &&& (858993459 : Int32)) + ((((x1 - (((x1.toUInt32 >>> ((1 : Int32).toUInt32 &&& Int32.toUInt32 31)).toInt32) &&& (1431655765 : Int32))).toUInt32 >>> ((2 : Int32).toUInt32 &&& Int32.toUInt32 31)).toInt32) &&& (858993459 : Int32))).toUInt32 >>> ((4 : Int32).toUInt32 &&& Int32.toUInt32 31)).toInt32)) &&& (252645135 : Int32)) + (((((((x1 - (((x1.toUInt32 >>> ((1 : Int32).toUInt32 &&& Int32.toUInt32 31)).toInt32) &&& (1431655765 : Int32))) &&& (858993459 : Int32)) + ((((x1 - (((x1.toUInt32 >>> ((1 : Int32).toUInt32 &&& Int32.toUInt32 31)).toInt32) &&& (1431655765 : Int32))).toUInt32 >>> ((2 : Int32).toUInt32 &&& Int32.toUInt32 31)).toInt32) &&& (858993459 : Int32))) + (((((x1 - (((x1.toUInt32 >>> ((1 : Int32).toUInt32 &&& Int32.toUInt32 31)).toInt32) &&& (1431655765 : Int32))) &&& (858993459 : Int32)) + ((((x1 - (((x1.toUInt32 >>> ((1 : Int32).toUInt32 &&& Int32.toUInt32 31)).toInt32) &&& (1431655765 : Int32))).toUInt32 >>> ((2 : Int32).toUInt32 &&& Int32.toUInt32 31)).toInt32) &&& (858993459 : Int32))).toUInt32 >>> ((4 : Int32).toUInt32 &&& Int32.toUInt32 31)).toInt32)) &&& (252645135 : Int32)).toUInt32 >>> ((8 : Int32).toUInt32 &&& Int32.toUInt32 31)).toInt32)) + ((((((((x1 - (((x1.toUInt32 >>> ((1 : Int32).toUInt32 &&& Int32.toUInt32 31)).toInt32) &&& (1431655765 : Int32))) &&& (858993459 : Int32)) + ((((x1 - (((x1.toUInt32 >>> ((1 : Int32).toUInt32 &&& Int32.toUInt32 31)).toInt32) &&& (1431655765 : Int32))).toUInt32 >>> ((2 : Int32).toUInt32 &&& Int32.toUInt32 31)).toInt32) &&& (858993459 : Int32))) + (((((x1 - (((x1.toUInt32 >>> ((1 : Int32).toUInt32 &&& Int32.toUInt32 31)).toInt32) &&& (1431655765 : Int32))) &&& (858993459 : Int32)) + ((((x1 - (((x1.toUInt32 >>> ((1 : Int32).toUInt32 &&& Int32.toUInt32 31)).toInt32) &&& (1431655765 : Int32))).toUInt32 >>> ((2 : Int32).toUInt32 &&& Int32.toUInt32 31)).toInt32) &&& (858993459 : Int32))).toUInt32 >>> ((4 : Int32).toUInt32 &&& Int32.toUInt32 31)).toInt32)) &&& (252645135 : Int32)) + (((((((x1 - (((x1.toUInt32 >>> ((1 : Int32).toUInt32 &&& Int32.toUInt32 31)).toInt32) &&& (1431655765 : Int32))) &&& (858993459 : Int32)) + ((((x1 - (((x1.toUInt32 >>> ((1 : Int32).toUInt32 &&& Int32.toUInt32 31)).toInt32) &&& (1431655765 : Int32))).toUInt32 >>> ((2 : Int32).toUInt32 &&& Int32.toUInt32 31)).toInt32) &&& (858993459 : Int32))) + (((((x1 - (((x1.toUInt32 >>> ((1 : Int32).toUInt32 &&& Int32.toUInt32 31)).toInt32) &&& (1431655765 : Int32))) &&& (858993459 : Int32)) + ((((x1 - (((x1.toUInt32 >>> ((1 : Int32).toUInt32 &&& Int32.toUInt32 31)).toInt32) &&& (1431655765 : Int32))).toUInt32 >>> ((2 : Int32).toUInt32 &&& Int32.toUInt32 31)).toInt32) &&& (858993459 : Int32))).toUInt32 >>> ((4 : Int32).toUInt32 &&& Int32.toUInt32 31)).toInt32)) &&& (252645135 : Int32)).toUInt32 >>> ((8 : Int32).toUInt32 &&& Int32.toUInt32 31)).toInt32)).toUInt32 >>> ((16 : Int32).toUInt32 &&& Int32.toUInt32 31)).toInt32)) &&& (63 : Int32))] (sm_hp m) [] rfl (sm_on) ?_
  obtain rfl := Option.some.inj hf
  exact w_reti dJ6_bitCount_0f7a4_52 rfl rfl
set_option maxRecDepth 10000 in
theorem tX11_odd {l : Launch} {al : Bool} (m : sm_S) (r : Int32 × sm_S) (hf : fX11_odd m = some r) : sm_Rt l mX11_odd 3 0 0 al al [.ref 0] (sm_hp m) (some (.int r.1), sm_hp r.2) := by
  refine sm_Rt.ofW (L := [.ref 0, .retAddr 0]) (by decide) (Nat.le_of_ble_eq_true rfl) rfl ?_
  unfold fX11_odd at hf
  refine w_blk bX11_odd_0 [.ref 0, .retAddr 0] [.ref 3, .ref 3] (sm_hp m) [] rfl (sm_on) ?_
  replace hf := sm_bd hf
  obtain ⟨r2, q1, hf⟩ := hf
  refine w_callV [] [.ref 3] (tX2_everyHedge m r2 q1) (cvX11_273 rfl) dX11_odd_8 rfl rfl (by decide) (by decide) rfl (Nat.le_of_ble_eq_true rfl) ?_
  show sm_W _ _ _ _ _ 11 [.ref 0, .retAddr 0] [.int r2, .ref 3] (sm_hp m)
  replace hf := sm_bd hf
  obtain ⟨r4, q3, hf⟩ := hf
  refine w_callV [.int r2] [] (tX2_oddCorners r2 m r4 q3) (cvX11_276 rfl) dX11_odd_11 rfl rfl (by decide) (by decide) rfl (Nat.le_of_ble_eq_true rfl) ?_
  show sm_W _ _ _ _ _ 14 [.ref 0, .retAddr 0] [.int r4] (sm_hp m)
  refine w_blk bX11_odd_14 [.ref 0, .int r4] [.int r4, .ref 14] (sm_hp m) [] rfl (sm_on) ?_
  replace hf := sm_bd hf
  obtain ⟨m6, q5, hf⟩ := hf
  refine w_callV [.int r4] [] (tX5_tell r4 m m6 q5) (cvX11_224 rfl) dX11_odd_20 rfl rfl (by decide) (by decide) rfl (Nat.le_of_ble_eq_true rfl) ?_
  show sm_W _ _ _ _ _ 23 [.ref 0, .int r4] [] (sm_hp m6)
  refine w_blk bX11_odd_23 [.ref 0, .int r4] [.int r4] (sm_hp m6) [] rfl (sm_on) ?_
  replace hf := sm_bd hf
  obtain ⟨r8, q7, hf⟩ := hf
  refine w_callS [.int r4] [] (tJ6_bitCount_0f7a4 r4 m6 r8 q7) (csX11_279 rfl) dX11_odd_24 rfl rfl (by decide) (by decide) (Nat.le_of_ble_eq_true rfl) ?_
  show sm_W _ _ _ _ _ 27 [.ref 0, .int r4] [.int r8] (sm_hp m6)
  obtain rfl := Option.some.inj hf
  exact w_reti dX11_odd_27 rfl rfl
set_option maxRecDepth 10000 in
theorem tX2_hanging_29 {l : Launch} {al : Bool} (k10 : Int32 → Int32 → Int32 → Int32 → sm_S → Option (Int32)) (hk10 : ∀ (v2 : Int32) (v3 : Int32) (v4 : Int32) (v5 : Int32) (m : sm_S) (r : Int32), k10 v2 v3 v4 v5 m = some r → sm_W l mX2_hanging 2 al (some (.int r), sm_hp m) 10 [.ref 3, .retAddr 0, .int v2, .int v3, .int v4, .int v5, .retAddr 0] [] (sm_hp m)) : ∀ (n : Nat) (v2 : Int32) (v3 : Int32) (v4 : Int32) (v5 : Int32) (v6 : Int32) (m : sm_S) (r : Int32), fX2_hanging_29 k10 n v2 v3 v4 v5 v6 m = some r → sm_W l mX2_hanging 2 al (some (.int r), sm_hp m) 29 [.ref 3, .retAddr 0, .int v2, .int v3, .int v4, .int v5, .int v6] [] (sm_hp m) := by
  intro n
  induction n with
  | zero =>
    intro v2 v3 v4 v5 v6 m r hf
    unfold fX2_hanging_29 at hf
    cases hf
  | succ n ih =>
    intro v2 v3 v4 v5 v6 m r hf
    unfold fX2_hanging_29 at hf
    refine w_blk bX2_hanging_29 [.ref 3, .retAddr 0, .int v2, .int v3, .int v4, .int v5, .int v6] [.int (m.1 3 1), .int v6] (sm_hp m) [] rfl (sm_on) ?_
    refine w_icmp_ge (tgt := 73) dX2_hanging_35 rfl (fun hc => ?_) (fun hc => ?_)
    · replace hf := sm_ift hc hf
      refine w_blk bX2_hanging_73 [.ref 3, .retAddr 0, .int v2, .int v3, .int v4, .int (v5 + (1 : Int32)), .int v6] [] (sm_hp m) [] rfl (sm_on) ?_
      refine w_goto (tgt := 10) dX2_hanging_76 rfl ?_
      refine w_wk [true, false, true, true, true, true, false] ?_
      exact hk10 v2 v3 v4 (v5 + (1 : Int32)) m r hf
    · replace hf := sm_iff hc hf
      refine w_blk bX2_hanging_38 [.ref 3, .retAddr 0, .int v2, .int v3, .int v4, .int v5, .int v6] [.int ((v2 >>> (v6 &&& 31)) &&& (1 : Int32))] (sm_hp m) [] rfl (sm_on) ?_
      refine w_if_eq (tgt := 67) dX2_hanging_44 rfl (fun hc => ?_) (fun hc => ?_)
      · replace hf := sm_ift hc hf
        refine w_blk bX2_hanging_67 [.ref 3, .retAddr 0, .int v2, .int v3, .int v4, .int v5, .int (v6 + (1 : Int32))] [] (sm_hp m) [] rfl (sm_on) ?_
        refine w_goto (tgt := 29) dX2_hanging_70 rfl ?_
        exact ih v2 v3 v4 v5 (v6 + (1 : Int32)) m r hf
      · replace hf := sm_iff hc hf
        refine w_blk bX2_hanging_47 [.ref 3, .retAddr 0, .int v2, .int v3, .int v4, .int v5, .int v6] [.int v6, .ref 3, .int v3] (sm_hp m) [] rfl (sm_on) ?_
        replace hf := sm_bd hf
        obtain ⟨r2, q1, hf⟩ := hf
        refine w_callV [.int v6] [.int v3] (tX2_endsOf v6 m r2 q1) (cvX2_62 rfl) dX2_hanging_51 rfl rfl (by decide) (by decide) rfl (Nat.le_of_ble_eq_true rfl) ?_
        show sm_W _ _ _ _ _ 54 [.ref 3, .retAddr 0, .int v2, .int v3, .int v4, .int v5, .int v6] [.int r2, .int v3] (sm_hp m)
        refine w_blk bX2_hanging_54 [.ref 3, .retAddr 0, .int v2, .int v3, .int v4, .int v5, .int v6] [.int (v3 &&& r2)] (sm_hp m) [] rfl (sm_on) ?_
        refine w_if_eq (tgt := 67) dX2_hanging_55 rfl (fun hc => ?_) (fun hc => ?_)
        · replace hf := sm_ift hc hf
          refine w_blk bX2_hanging_67 [.ref 3, .retAddr 0, .int v2, .int v3, .int v4, .int v5, .int (v6 + (1 : Int32))] [] (sm_hp m) [] rfl (sm_on) ?_
          refine w_goto (tgt := 29) dX2_hanging_70 rfl ?_
          exact ih v2 v3 v4 v5 (v6 + (1 : Int32)) m r hf
        · replace hf := sm_iff hc hf
          refine w_blk bX2_hanging_58 [.ref 3, .retAddr 0, .int v2, .int v3, .int v4, .int v5, .int v6] [.int v6, .ref 3, .int v3] (sm_hp m) [] rfl (sm_on) ?_
          replace hf := sm_bd hf
          obtain ⟨r4, q3, hf⟩ := hf
          refine w_callV [.int v6] [.int v3] (tX2_endsOf v6 m r4 q3) (cvX2_62 rfl) dX2_hanging_62 rfl rfl (by decide) (by decide) rfl (Nat.le_of_ble_eq_true rfl) ?_
          show sm_W _ _ _ _ _ 65 [.ref 3, .retAddr 0, .int v2, .int v3, .int v4, .int v5, .int v6] [.int r4, .int v3] (sm_hp m)
          refine w_blk bX2_hanging_65 [.ref 3, .retAddr 0, .int v2, .int (v3 ||| r4), .int v4, .int v5, .int v6] [] (sm_hp m) [] rfl (sm_on) ?_
          refine w_blk bX2_hanging_67 [.ref 3, .retAddr 0, .int v2, .int (v3 ||| r4), .int v4, .int v5, .int (v6 + (1 : Int32))] [] (sm_hp m) [] rfl (sm_on) ?_
          refine w_goto (tgt := 29) dX2_hanging_70 rfl ?_
          exact ih v2 (v3 ||| r4) v4 v5 (v6 + (1 : Int32)) m r hf
set_option maxRecDepth 10000 in
theorem tX2_hanging_10 {l : Launch} {al : Bool} : ∀ (n : Nat) (v2 : Int32) (v3 : Int32) (v4 : Int32) (v5 : Int32) (m : sm_S) (r : Int32), fX2_hanging_10 n v2 v3 v4 v5 m = some r → sm_W l mX2_hanging 2 al (some (.int r), sm_hp m) 10 [.ref 3, .retAddr 0, .int v2, .int v3, .int v4, .int v5, .retAddr 0] [] (sm_hp m) := by
  intro n
  induction n with
  | zero =>
    intro v2 v3 v4 v5 m r hf
    unfold fX2_hanging_10 at hf
    cases hf
  | succ n ih =>
    intro v2 v3 v4 v5 m r hf
    unfold fX2_hanging_10 at hf
    refine w_blk bX2_hanging_10 [.ref 3, .retAddr 0, .int v2, .int v3, .int v4, .int v5, .retAddr 0] [.int (10 : Int32), .int v5] (sm_hp m) [] rfl (sm_on) ?_
    refine w_icmp_ge (tgt := 79) dX2_hanging_14 rfl (fun hc => ?_) (fun hc => ?_)
    · replace hf := sm_ift hc hf
      refine w_blk bX2_hanging_79 [.ref 3, .retAddr 0, .int v2, .int v3, .int v4, .int v5, .retAddr 0] [.int v3] (sm_hp m) [] rfl (sm_on) ?_
      obtain rfl := Option.some.inj hf
      exact w_reti dX2_hanging_80 rfl rfl
    · replace hf := sm_iff hc hf
      refine w_blk bX2_hanging_17 [.ref 3, .retAddr 0, .int v2, .int v3, .int v4, .int v5, .retAddr 0] [.int v4, .int v3] (sm_hp m) [] rfl (sm_on) ?_
      refine w_icmp_eq (tgt := 79) dX2_hanging_20 rfl (fun hc => ?_) (fun hc => ?_)
      · replace hf := sm_ift hc hf
        refine w_blk bX2_hanging_79 [.ref 3, .retAddr 0, .int v2, .int v3, .int v4, .int v5, .retAddr 0] [.int v3] (sm_hp m) [] rfl (sm_on) ?_
        obtain rfl := Option.some.inj hf
        exact w_reti dX2_hanging_80 rfl rfl
      · replace hf := sm_iff hc hf
        refine w_blk bX2_hanging_23 [.ref 3, .retAddr 0, .int v2, .int v3, .int v3, .int v5, .int (0 : Int32)] [] (sm_hp m) [] rfl (sm_on) ?_
        exact tX2_hanging_29 (fX2_hanging_10 n) ih sm_fu v2 v3 v3 v5 (0 : Int32) m r hf
set_option maxRecDepth 10000 in
theorem tX2_hanging {l : Launch} {al : Bool} (x1 : Int32) (x2 : Int32) (m : sm_S) (r : Int32) (hf : fX2_hanging x1 x2 m = some r) : sm_Rt l mX2_hanging 2 0 0 al al [.ref 3, .int x1, .int x2] (sm_hp m) (some (.int r), sm_hp m) := by
  refine sm_Rt.ofW (L := [.ref 3, .int x1, .int x2, .retAddr 0, .retAddr 0, .retAddr 0, .retAddr 0]) (by decide) (Nat.le_of_ble_eq_true rfl) rfl ?_
  unfold fX2_hanging at hf
  refine w_blk bX2_hanging_0 [.ref 3, .int x1, .int x2, .int ((1 : Int32) <<< (x1 &&& 31)), .int (0 : Int32), .int (0 : Int32), .retAddr 0] [] (sm_hp m) [] rfl (sm_on) ?_
  refine w_wk [true, false, true, true, true, true, false] ?_
  exact tX2_hanging_10 sm_fu x2 ((1 : Int32) <<< (x1 &&& 31)) (0 : Int32) (0 : Int32) m r hf
set_option maxRecDepth 10000 in
theorem tX11_men_25 {l : Launch} {al : Bool} : ∀ (n : Nat) (v1 : Int32) (v2 : Int32) (v3 : Int32) (v4 : Int32) (v5 : Int32) (m : sm_S) (r : Int32 × sm_S), fX11_men_25 n v1 v2 v3 v4 v5 m = some r → sm_W l mX11_men 3 al (some (.int r.1), sm_hp r.2) 25 [.ref 0, .int v1, .int v2, .int v3, .int v4, .int v5, .retAddr 0] [] (sm_hp m) := by
  intro n
  induction n with
  | zero =>
    intro v1 v2 v3 v4 v5 m r hf
    unfold fX11_men_25 at hf
    cases hf
  | succ n ih =>
    intro v1 v2 v3 v4 v5 m r hf
    unfold fX11_men_25 at hf
    refine w_blk bX11_men_25 [.ref 0, .int v1, .int v2, .int v3, .int v4, .int v5, .retAddr 0] [.int (m.1 3 1), .int v5] (sm_hp m) [] rfl (sm_on) ?_
    refine w_icmp_ge (tgt := 112) dX11_men_34 rfl (fun hc => ?_) (fun hc => ?_)
    · replace hf := sm_ift hc hf
      refine w_blk bX11_men_112 [.ref 0, .int v1, .int v2, .int v3, .int v4, .int v5, .retAddr 0] [.int v3, .ref 14] (sm_hp m) [] rfl (sm_on) ?_
      replace hf := sm_bd hf
      obtain ⟨m6, q5, hf⟩ := hf
      refine w_callV [.int v3] [] (tX5_tell v3 m m6 q5) (cvX11_224 rfl) dX11_men_117 rfl rfl (by decide) (by decide) rfl (Nat.le_of_ble_eq_true rfl) ?_
      show sm_W _ _ _ _ _ 120 [.ref 0, .int v1, .int v2, .int v3, .int v4, .int v5, .retAddr 0] [] (sm_hp m6)
      refine w_blk bX11_men_120 [.ref 0, .int v1, .int v2, .int v3, .int v4, .int v5, .retAddr 0] [.int v4] (sm_hp m6) [] rfl (sm_on) ?_
      obtain rfl := Option.some.inj hf
      exact w_reti dX11_men_122 rfl rfl
    · replace hf := sm_iff hc hf
      replace hf := sm_ck hf
      obtain ⟨q7, hf⟩ := hf
      refine w_blk bX11_men_37 [.ref 0, .int v1, .int v2, .int v3, .int v4, .int v5, .retAddr 0] [.int ((v2 >>> ((m.1 6 (v5).toNatClampNeg) &&& 31)) &&& (1 : Int32))] (sm_hp m) [(v5, 14)] rfl (sm_oc q7 (sm_on)) ?_
      refine w_if_ne (tgt := 106) dX11_men_51 rfl (fun hc => ?_) (fun hc => ?_)
      · replace hf := sm_iff hc hf
        refine w_blk bX11_men_106 [.ref 0, .int v1, .int v2, .int v3, .int v4, .int (v5 + (1 : Int32)), .retAddr 0] [] (sm_hp m) [] rfl (sm_on) ?_
        refine w_goto (tgt := 25) dX11_men_109 rfl ?_
        exact ih v1 v2 v3 v4 (v5 + (1 : Int32)) m r hf
      · replace hf := sm_ift hc hf
        replace hf := sm_ck hf
        obtain ⟨q8, hf⟩ := hf
        refine w_blk bX11_men_54 [.ref 0, .int v1, .int v2, .int v3, .int v4, .int v5, .retAddr 0] [.ref 3, .int (m.1 6 (v5).toNatClampNeg), .ref 3] (sm_hp m) [(v5, 14)] rfl (sm_oc q8 (sm_on)) ?_
        replace hf := sm_bd hf
        obtain ⟨r10, q9, hf⟩ := hf
        refine w_callV [] [.int (m.1 6 (v5).toNatClampNeg), .ref 3] (tX2_everyHedge m r10 q9) (cvX11_273 rfl) dX11_men_72 rfl rfl (by decide) (by decide) rfl (Nat.le_of_ble_eq_true rfl) ?_
        show sm_W _ _ _ _ _ 75 [.ref 0, .int v1, .int v2, .int v3, .int v4, .int v5, .retAddr 0] [.int r10, .int (m.1 6 (v5).toNatClampNeg), .ref 3] (sm_hp m)
        replace hf := sm_bd hf
        obtain ⟨r12, q11, hf⟩ := hf
        refine w_callV [.int (m.1 6 (v5).toNatClampNeg), .int r10] [] (tX2_hanging (m.1 6 (v5).toNatClampNeg) r10 m r12 q11) (cvX11_284 rfl) dX11_men_75 rfl rfl (by decide) (by decide) rfl (Nat.le_of_ble_eq_true rfl) ?_
        show sm_W _ _ _ _ _ 78 [.ref 0, .int v1, .int v2, .int v3, .int v4, .int v5, .retAddr 0] [.int r12] (sm_hp m)
        refine w_blk bX11_men_78 [.ref 0, .int v1, .int (v2 ||| r12), .int (v3 + (1 : Int32)), .int v4, .int v5, .int r12] [.int (r12 &&& v1), .int (1 : Int32), .int v4] (sm_hp m) [] rfl (sm_on) ?_
        replace hf := sm_bd hf
        obtain ⟨r14, q13, hf⟩ := hf
        refine w_callS [.int (r12 &&& v1)] [.int (1 : Int32), .int v4] (tJ6_bitCount_0f7a4 (r12 &&& v1) m r14 q13) (csX11_279 rfl) dX11_men_95 rfl rfl (by decide) (by decide) (Nat.le_of_ble_eq_true rfl) ?_
        show sm_W _ _ _ _ _ 98 [.ref 0, .int v1, .int (v2 ||| r12), .int (v3 + (1 : Int32)), .int v4, .int v5, .int r12] [.int r14, .int (1 : Int32), .int v4] (sm_hp m)
        refine w_blk bX11_men_98 [.ref 0, .int v1, .int (v2 ||| r12), .int (v3 + (1 : Int32)), .int (v4 + (if (1 : Int32) < (r14 / (2 : Int32)) then (r14 / (2 : Int32)) else (1 : Int32))), .int v5, .int r12] [] (sm_hp m) [] rfl (sm_on) ?_
        refine w_blk bX11_men_106 [.ref 0, .int v1, .int (v2 ||| r12), .int (v3 + (1 : Int32)), .int (v4 + (if (1 : Int32) < (r14 / (2 : Int32)) then (r14 / (2 : Int32)) else (1 : Int32))), .int (v5 + (1 : Int32)), .int r12] [] (sm_hp m) [] rfl (sm_on) ?_
        refine w_goto (tgt := 25) dX11_men_109 rfl ?_
        refine w_wk [true, true, true, true, true, true, false] ?_
        exact ih v1 (v2 ||| r12) (v3 + (1 : Int32)) (v4 + (if (1 : Int32) < (r14 / (2 : Int32)) then (r14 / (2 : Int32)) else (1 : Int32))) (v5 + (1 : Int32)) m r hf
set_option maxRecDepth 10000 in
theorem tX11_men {l : Launch} {al : Bool} (m : sm_S) (r : Int32 × sm_S) (hf : fX11_men m = some r) : sm_Rt l mX11_men 3 0 0 al al [.ref 0] (sm_hp m) (some (.int r.1), sm_hp r.2) := by
  refine sm_Rt.ofW (L := [.ref 0, .retAddr 0, .retAddr 0, .retAddr 0, .retAddr 0, .retAddr 0, .retAddr 0]) (by decide) (Nat.le_of_ble_eq_true rfl) rfl ?_
  unfold fX11_men at hf
  refine w_blk bX11_men_0 [.ref 0, .retAddr 0, .retAddr 0, .retAddr 0, .retAddr 0, .retAddr 0, .retAddr 0] [.ref 3, .ref 3] (sm_hp m) [] rfl (sm_on) ?_
  replace hf := sm_bd hf
  obtain ⟨r2, q1, hf⟩ := hf
  refine w_callV [] [.ref 3] (tX2_everyHedge m r2 q1) (cvX11_273 rfl) dX11_men_8 rfl rfl (by decide) (by decide) rfl (Nat.le_of_ble_eq_true rfl) ?_
  show sm_W _ _ _ _ _ 11 [.ref 0, .retAddr 0, .retAddr 0, .retAddr 0, .retAddr 0, .retAddr 0, .retAddr 0] [.int r2, .ref 3] (sm_hp m)
  replace hf := sm_bd hf
  obtain ⟨r4, q3, hf⟩ := hf
  refine w_callV [.int r2] [] (tX2_oddCorners r2 m r4 q3) (cvX11_276 rfl) dX11_men_11 rfl rfl (by decide) (by decide) rfl (Nat.le_of_ble_eq_true rfl) ?_
  show sm_W _ _ _ _ _ 14 [.ref 0, .retAddr 0, .retAddr 0, .retAddr 0, .retAddr 0, .retAddr 0, .retAddr 0] [.int r4] (sm_hp m)
  refine w_blk bX11_men_14 [.ref 0, .int r4, .int (0 : Int32), .int (0 : Int32), .int (0 : Int32), .int (0 : Int32), .retAddr 0] [] (sm_hp m) [] rfl (sm_on) ?_
  exact tX11_men_25 sm_fu r4 (0 : Int32) (0 : Int32) (0 : Int32) (0 : Int32) m r hf
set_option maxRecDepth 10000 in
theorem tX2_holdsAll_2 {l : Launch} {al : Bool} : ∀ (n : Nat) (v1 : Int32) (v2 : Int32) (v3 : Int32) (m : sm_S) (r : Int32), fX2_holdsAll_2 n v1 v2 v3 m = some r → sm_W l mX2_holdsAll 1 al (some (.int r), sm_hp m) 2 [.ref 3, .int v1, .int v2, .int v3] [] (sm_hp m) := by
  intro n
  induction n with
  | zero =>
    intro v1 v2 v3 m r hf
    unfold fX2_holdsAll_2 at hf
    cases hf
  | succ n ih =>
    intro v1 v2 v3 m r hf
    unfold fX2_holdsAll_2 at hf
    refine w_blk bX2_holdsAll_2 [.ref 3, .int v1, .int v2, .int v3] [.int (m.1 3 1), .int v3] (sm_hp m) [] rfl (sm_on) ?_
    refine w_icmp_ge (tgt := 39) dX2_holdsAll_7 rfl (fun hc => ?_) (fun hc => ?_)
    · replace hf := sm_ift hc hf
      refine w_blk bX2_holdsAll_39 [.ref 3, .int v1, .int v2, .int v3] [.int (1 : Int32)] (sm_hp m) [] rfl (sm_on) ?_
      obtain rfl := Option.some.inj hf
      exact w_reti dX2_holdsAll_40 rfl sm_nb1
    · replace hf := sm_iff hc hf
      refine w_blk bX2_holdsAll_10 [.ref 3, .int v1, .int v2, .int v3] [.int ((v2 >>> (v3 &&& 31)) &&& (1 : Int32))] (sm_hp m) [] rfl (sm_on) ?_
      refine w_if_eq (tgt := 33) dX2_holdsAll_15 rfl (fun hc => ?_) (fun hc => ?_)
      · replace hf := sm_ift hc hf
        refine w_blk bX2_holdsAll_33 [.ref 3, .int v1, .int v2, .int (v3 + (1 : Int32))] [] (sm_hp m) [] rfl (sm_on) ?_
        refine w_goto (tgt := 2) dX2_holdsAll_36 rfl ?_
        exact ih v1 v2 (v3 + (1 : Int32)) m r hf
      · replace hf := sm_iff hc hf
        replace hf := sm_ck hf
        obtain ⟨q1, hf⟩ := hf
        refine w_blk bX2_holdsAll_18 [.ref 3, .int v1, .int v2, .int v3] [.int ((v1 >>> ((m.1 6 (v3).toNatClampNeg) &&& 31)) &&& (1 : Int32))] (sm_hp m) [(v3, 14)] rfl (sm_oc q1 (sm_on)) ?_
        refine w_if_ne (tgt := 33) dX2_holdsAll_28 rfl (fun hc => ?_) (fun hc => ?_)
        · replace hf := sm_iff hc hf
          refine w_blk bX2_holdsAll_33 [.ref 3, .int v1, .int v2, .int (v3 + (1 : Int32))] [] (sm_hp m) [] rfl (sm_on) ?_
          refine w_goto (tgt := 2) dX2_holdsAll_36 rfl ?_
          exact ih v1 v2 (v3 + (1 : Int32)) m r hf
        · replace hf := sm_ift hc hf
          refine w_blk bX2_holdsAll_31 [.ref 3, .int v1, .int v2, .int v3] [.int (0 : Int32)] (sm_hp m) [] rfl (sm_on) ?_
          obtain rfl := Option.some.inj hf
          exact w_reti dX2_holdsAll_32 rfl sm_nb0
set_option maxRecDepth 10000 in
theorem tX2_holdsAll {l : Launch} {al : Bool} (x1 : Int32) (x2 : Int32) (m : sm_S) (r : Int32) (hf : fX2_holdsAll x1 x2 m = some r) : sm_Rt l mX2_holdsAll 1 0 0 al al [.ref 3, .int x1, .int x2] (sm_hp m) (some (.int r), sm_hp m) := by
  refine sm_Rt.ofW (L := [.ref 3, .int x1, .int x2, .retAddr 0]) (by decide) (Nat.le_of_ble_eq_true rfl) rfl ?_
  unfold fX2_holdsAll at hf
  refine w_blk bX2_holdsAll_0 [.ref 3, .int x1, .int x2, .int (0 : Int32)] [] (sm_hp m) [] rfl (sm_on) ?_
  exact tX2_holdsAll_2 sm_fu x1 x2 (0 : Int32) m r hf
set_option maxRecDepth 10000 in
theorem tX2_isTrail {l : Launch} {al : Bool} (x1 : Int32) (x2 : Int32) (m : sm_S) (r : Int32) (hf : fX2_isTrail x1 x2 m = some r) : sm_Rt l mX2_isTrail 3 0 0 al al [.ref 3, .int x1, .int x2] (sm_hp m) (some (.int r), sm_hp m) := by
  refine sm_Rt.ofW (L := [.ref 3, .int x1, .int x2, .retAddr 0, .retAddr 0]) (by decide) (Nat.le_of_ble_eq_true rfl) rfl ?_
  unfold fX2_isTrail at hf
  refine w_blk bX2_isTrail_0 [.ref 3, .int x1, .int x2, .retAddr 0, .retAddr 0] [.int x2, .ref 3] (sm_hp m) [] rfl (sm_on) ?_
  replace hf := sm_bd hf
  obtain ⟨r2, q1, hf⟩ := hf
  refine w_callV [.int x2] [] (tX2_oddCorners x2 m r2 q1) (cvX2_77 rfl) dX2_isTrail_2 rfl rfl (by decide) (by decide) rfl (Nat.le_of_ble_eq_true rfl) ?_
  show sm_W _ _ _ _ _ 5 [.ref 3, .int x1, .int x2, .retAddr 0, .retAddr 0] [.int r2] (sm_hp m)
  refine w_blk bX2_isTrail_5 [.ref 3, .int x1, .int x2, .int r2, .retAddr 0] [.int r2] (sm_hp m) [] rfl (sm_on) ?_
  refine w_if_eq (tgt := 26) dX2_isTrail_7 rfl (fun hc => ?_) (fun hc => ?_)
  · replace hf := sm_ift hc hf
    refine w_blk bX2_isTrail_26 [.ref 3, .int x1, .int x2, .int r2, .retAddr 0] [.int (1 : Int32)] (sm_hp m) [] rfl (sm_on) ?_
    refine w_goto (tgt := 31) dX2_isTrail_27 rfl ?_
    refine w_blk bX2_isTrail_31 [.ref 3, .int x1, .int x2, .int r2, .int (1 : Int32)] [.int (1 : Int32)] (sm_hp m) [] rfl (sm_on) ?_
    refine w_if_eq (tgt := 56) dX2_isTrail_35 rfl (fun hc => absurd hc (by decide)) (fun _ => ?_)
    refine w_blk bX2_isTrail_38 [.ref 3, .int x1, .int x2, .int r2, .int (1 : Int32)] [.int x2, .int x1, .ref 3, .ref 3] (sm_hp m) [] rfl (sm_on) ?_
    replace hf := sm_bd hf
    obtain ⟨r4, q3, hf⟩ := hf
    refine w_callV [.int x1, .int x2] [.ref 3] (tX2_hanging x1 x2 m r4 q3) (cvX2_69 rfl) dX2_isTrail_42 rfl rfl (by decide) (by decide) rfl (Nat.le_of_ble_eq_true rfl) ?_
    show sm_W _ _ _ _ _ 45 [.ref 3, .int x1, .int x2, .int r2, .int (1 : Int32)] [.int r4, .ref 3] (sm_hp m)
    refine w_blk bX2_isTrail_45 [.ref 3, .int x1, .int x2, .int r2, .int (1 : Int32)] [.int x2, .int r4, .ref 3] (sm_hp m) [] rfl (sm_on) ?_
    replace hf := sm_bd hf
    obtain ⟨r6, q5, hf⟩ := hf
    refine w_callV [.int r4, .int x2] [] (tX2_holdsAll r4 x2 m r6 q5) (cvX2_73 rfl) dX2_isTrail_46 rfl rfl (by decide) (by decide) rfl (Nat.le_of_ble_eq_true rfl) ?_
    show sm_W _ _ _ _ _ 49 [.ref 3, .int x1, .int x2, .int r2, .int (1 : Int32)] [.int r6] (sm_hp m)
    refine w_if_eq (tgt := 56) dX2_isTrail_49 rfl (fun hc => ?_) (fun hc => ?_)
    · replace hf := sm_ift hc hf
      refine w_blk bX2_isTrail_56 [.ref 3, .int x1, .int x2, .int r2, .int (1 : Int32)] [.int (0 : Int32)] (sm_hp m) [] rfl (sm_on) ?_
      obtain rfl := Option.some.inj hf
      exact w_reti dX2_isTrail_57 rfl sm_nb0
    · replace hf := sm_iff hc hf
      refine w_blk bX2_isTrail_52 [.ref 3, .int x1, .int x2, .int r2, .int (1 : Int32)] [.int (1 : Int32)] (sm_hp m) [] rfl (sm_on) ?_
      refine w_goto (tgt := 57) dX2_isTrail_53 rfl ?_
      obtain rfl := Option.some.inj hf
      exact w_reti dX2_isTrail_57 rfl sm_nb1
  · replace hf := sm_iff hc hf
    refine w_blk bX2_isTrail_10 [.ref 3, .int x1, .int x2, .int r2, .retAddr 0] [.int r2] (sm_hp m) [] rfl (sm_on) ?_
    replace hf := sm_bd hf
    obtain ⟨r8, q7, hf⟩ := hf
    refine w_callS [.int r2] [] (tJ6_bitCount_0f7a4 r2 m r8 q7) (csX2_80 rfl) dX2_isTrail_11 rfl rfl (by decide) (by decide) (Nat.le_of_ble_eq_true rfl) ?_
    show sm_W _ _ _ _ _ 14 [.ref 3, .int x1, .int x2, .int r2, .retAddr 0] [.int r8] (sm_hp m)
    refine w_blk bX2_isTrail_14 [.ref 3, .int x1, .int x2, .int r2, .retAddr 0] [.int (2 : Int32), .int r8] (sm_hp m) [] rfl (sm_on) ?_
    refine w_icmp_ne (tgt := 30) dX2_isTrail_15 rfl (fun hc => ?_) (fun hc => ?_)
    · replace hf := sm_iff hc hf
      refine w_blk bX2_isTrail_30 [.ref 3, .int x1, .int x2, .int r2, .retAddr 0] [.int (0 : Int32)] (sm_hp m) [] rfl (sm_on) ?_
      refine w_blk bX2_isTrail_31 [.ref 3, .int x1, .int x2, .int r2, .int (0 : Int32)] [.int (0 : Int32)] (sm_hp m) [] rfl (sm_on) ?_
      refine w_if_eq (tgt := 56) dX2_isTrail_35 rfl (fun _ => ?_) (fun hc => absurd hc (by decide))
      refine w_blk bX2_isTrail_56 [.ref 3, .int x1, .int x2, .int r2, .int (0 : Int32)] [.int (0 : Int32)] (sm_hp m) [] rfl (sm_on) ?_
      obtain rfl := Option.some.inj hf
      exact w_reti dX2_isTrail_57 rfl sm_nb0
    · replace hf := sm_ift hc hf
      refine w_blk bX2_isTrail_18 [.ref 3, .int x1, .int x2, .int r2, .retAddr 0] [.int ((r2 >>> (x1 &&& 31)) &&& (1 : Int32))] (sm_hp m) [] rfl (sm_on) ?_
      refine w_if_eq (tgt := 30) dX2_isTrail_23 rfl (fun hc => ?_) (fun hc => ?_)
      · replace hf := sm_ift hc hf
        refine w_blk bX2_isTrail_30 [.ref 3, .int x1, .int x2, .int r2, .retAddr 0] [.int (0 : Int32)] (sm_hp m) [] rfl (sm_on) ?_
        refine w_blk bX2_isTrail_31 [.ref 3, .int x1, .int x2, .int r2, .int (0 : Int32)] [.int (0 : Int32)] (sm_hp m) [] rfl (sm_on) ?_
        refine w_if_eq (tgt := 56) dX2_isTrail_35 rfl (fun _ => ?_) (fun hc => absurd hc (by decide))
        refine w_blk bX2_isTrail_56 [.ref 3, .int x1, .int x2, .int r2, .int (0 : Int32)] [.int (0 : Int32)] (sm_hp m) [] rfl (sm_on) ?_
        obtain rfl := Option.some.inj hf
        exact w_reti dX2_isTrail_57 rfl sm_nb0
      · replace hf := sm_iff hc hf
        refine w_blk bX2_isTrail_26 [.ref 3, .int x1, .int x2, .int r2, .retAddr 0] [.int (1 : Int32)] (sm_hp m) [] rfl (sm_on) ?_
        refine w_goto (tgt := 31) dX2_isTrail_27 rfl ?_
        refine w_blk bX2_isTrail_31 [.ref 3, .int x1, .int x2, .int r2, .int (1 : Int32)] [.int (1 : Int32)] (sm_hp m) [] rfl (sm_on) ?_
        refine w_if_eq (tgt := 56) dX2_isTrail_35 rfl (fun hc => absurd hc (by decide)) (fun _ => ?_)
        refine w_blk bX2_isTrail_38 [.ref 3, .int x1, .int x2, .int r2, .int (1 : Int32)] [.int x2, .int x1, .ref 3, .ref 3] (sm_hp m) [] rfl (sm_on) ?_
        replace hf := sm_bd hf
        obtain ⟨r10, q9, hf⟩ := hf
        refine w_callV [.int x1, .int x2] [.ref 3] (tX2_hanging x1 x2 m r10 q9) (cvX2_69 rfl) dX2_isTrail_42 rfl rfl (by decide) (by decide) rfl (Nat.le_of_ble_eq_true rfl) ?_
        show sm_W _ _ _ _ _ 45 [.ref 3, .int x1, .int x2, .int r2, .int (1 : Int32)] [.int r10, .ref 3] (sm_hp m)
        refine w_blk bX2_isTrail_45 [.ref 3, .int x1, .int x2, .int r2, .int (1 : Int32)] [.int x2, .int r10, .ref 3] (sm_hp m) [] rfl (sm_on) ?_
        replace hf := sm_bd hf
        obtain ⟨r12, q11, hf⟩ := hf
        refine w_callV [.int r10, .int x2] [] (tX2_holdsAll r10 x2 m r12 q11) (cvX2_73 rfl) dX2_isTrail_46 rfl rfl (by decide) (by decide) rfl (Nat.le_of_ble_eq_true rfl) ?_
        show sm_W _ _ _ _ _ 49 [.ref 3, .int x1, .int x2, .int r2, .int (1 : Int32)] [.int r12] (sm_hp m)
        refine w_if_eq (tgt := 56) dX2_isTrail_49 rfl (fun hc => ?_) (fun hc => ?_)
        · replace hf := sm_ift hc hf
          refine w_blk bX2_isTrail_56 [.ref 3, .int x1, .int x2, .int r2, .int (1 : Int32)] [.int (0 : Int32)] (sm_hp m) [] rfl (sm_on) ?_
          obtain rfl := Option.some.inj hf
          exact w_reti dX2_isTrail_57 rfl sm_nb0
        · replace hf := sm_iff hc hf
          refine w_blk bX2_isTrail_52 [.ref 3, .int x1, .int x2, .int r2, .int (1 : Int32)] [.int (1 : Int32)] (sm_hp m) [] rfl (sm_on) ?_
          refine w_goto (tgt := 57) dX2_isTrail_53 rfl ?_
          obtain rfl := Option.some.inj hf
          exact w_reti dX2_isTrail_57 rfl sm_nb1
set_option maxRecDepth 10000 in
theorem tX4_leastStep_2 {l : Launch} {al : Bool} : ∀ (n : Nat) (v1 : Int32) (v2 : Int32) (v3 : Int32) (m : sm_S) (r : Int32), fX4_leastStep_2 n v1 v2 v3 m = some r → sm_W l mX4_leastStep 4 al (some (.int r), sm_hp m) 2 [.ref 3, .int v1, .int v2, .int v3] [] (sm_hp m) := by
  intro n
  induction n with
  | zero =>
    intro v1 v2 v3 m r hf
    unfold fX4_leastStep_2 at hf
    cases hf
  | succ n ih =>
    intro v1 v2 v3 m r hf
    unfold fX4_leastStep_2 at hf
    refine w_blk bX4_leastStep_2 [.ref 3, .int v1, .int v2, .int v3] [.int (m.1 3 1), .int v3] (sm_hp m) [] rfl (sm_on) ?_
    refine w_icmp_ge (tgt := 55) dX4_leastStep_7 rfl (fun hc => ?_) (fun hc => ?_)
    · replace hf := sm_ift hc hf
      refine w_blk bX4_leastStep_55 [.ref 3, .int v1, .int v2, .int v3] [.int (-1 : Int32)] (sm_hp m) [] rfl (sm_on) ?_
      obtain rfl := Option.some.inj hf
      exact w_reti dX4_leastStep_56 rfl rfl
    · replace hf := sm_iff hc hf
      refine w_blk bX4_leastStep_10 [.ref 3, .int v1, .int v2, .int v3] [.int ((v2 >>> (v3 &&& 31)) &&& (1 : Int32))] (sm_hp m) [] rfl (sm_on) ?_
      refine w_if_eq (tgt := 49) dX4_leastStep_15 rfl (fun hc => ?_) (fun hc => ?_)
      · replace hf := sm_ift hc hf
        refine w_blk bX4_leastStep_49 [.ref 3, .int v1, .int v2, .int (v3 + (1 : Int32))] [] (sm_hp m) [] rfl (sm_on) ?_
        refine w_goto (tgt := 2) dX4_leastStep_52 rfl ?_
        exact ih v1 v2 (v3 + (1 : Int32)) m r hf
      · replace hf := sm_iff hc hf
        refine w_blk bX4_leastStep_18 [.ref 3, .int v1, .int v2, .int v3] [.int v1, .int v3, .ref 3] (sm_hp m) [] rfl (sm_on) ?_
        replace hf := sm_bd hf
        obtain ⟨r2, q1, hf⟩ := hf
        refine w_callV [.int v3, .int v1] [] (tX2_touches v3 v1 m r2 q1) (cvX4_56 rfl) dX4_leastStep_21 rfl rfl (by decide) (by decide) rfl (Nat.le_of_ble_eq_true rfl) ?_
        show sm_W _ _ _ _ _ 24 [.ref 3, .int v1, .int v2, .int v3] [.int r2] (sm_hp m)
        refine w_if_eq (tgt := 49) dX4_leastStep_24 rfl (fun hc => ?_) (fun hc => ?_)
        · replace hf := sm_ift hc hf
          refine w_blk bX4_leastStep_49 [.ref 3, .int v1, .int v2, .int (v3 + (1 : Int32))] [] (sm_hp m) [] rfl (sm_on) ?_
          refine w_goto (tgt := 2) dX4_leastStep_52 rfl ?_
          exact ih v1 v2 (v3 + (1 : Int32)) m r hf
        · replace hf := sm_iff hc hf
          refine w_blk bX4_leastStep_27 [.ref 3, .int v1, .int v2, .int v3] [.int v1, .int v3, .ref 3, .ref 3] (sm_hp m) [] rfl (sm_on) ?_
          replace hf := sm_bd hf
          obtain ⟨r4, q3, hf⟩ := hf
          refine w_callV [.int v3, .int v1] [.ref 3] (tX2_otherEnd v3 v1 m r4 q3) (cvX4_53 rfl) dX4_leastStep_31 rfl rfl (by decide) (by decide) rfl (Nat.le_of_ble_eq_true rfl) ?_
          show sm_W _ _ _ _ _ 34 [.ref 3, .int v1, .int v2, .int v3] [.int r4, .ref 3] (sm_hp m)
          refine w_blk bX4_leastStep_34 [.ref 3, .int v1, .int v2, .int v3] [.int (v2 &&& (((1 : Int32) <<< (v3 &&& 31)) ^^^ (-1 : Int32))), .int r4, .ref 3] (sm_hp m) [] rfl (sm_on) ?_
          replace hf := sm_bd hf
          obtain ⟨r6, q5, hf⟩ := hf
          refine w_callV [.int r4, .int (v2 &&& (((1 : Int32) <<< (v3 &&& 31)) ^^^ (-1 : Int32)))] [] (tX2_isTrail r4 (v2 &&& (((1 : Int32) <<< (v3 &&& 31)) ^^^ (-1 : Int32))) m r6 q5) (cvX4_60 rfl) dX4_leastStep_41 rfl rfl (by decide) (by decide) rfl (Nat.le_of_ble_eq_true rfl) ?_
          show sm_W _ _ _ _ _ 44 [.ref 3, .int v1, .int v2, .int v3] [.int r6] (sm_hp m)
          refine w_if_eq (tgt := 49) dX4_leastStep_44 rfl (fun hc => ?_) (fun hc => ?_)
          · replace hf := sm_ift hc hf
            refine w_blk bX4_leastStep_49 [.ref 3, .int v1, .int v2, .int (v3 + (1 : Int32))] [] (sm_hp m) [] rfl (sm_on) ?_
            refine w_goto (tgt := 2) dX4_leastStep_52 rfl ?_
            exact ih v1 v2 (v3 + (1 : Int32)) m r hf
          · replace hf := sm_iff hc hf
            refine w_blk bX4_leastStep_47 [.ref 3, .int v1, .int v2, .int v3] [.int v3] (sm_hp m) [] rfl (sm_on) ?_
            obtain rfl := Option.some.inj hf
            exact w_reti dX4_leastStep_48 rfl rfl
set_option maxRecDepth 10000 in
theorem tX4_leastStep {l : Launch} {al : Bool} (x1 : Int32) (x2 : Int32) (m : sm_S) (r : Int32) (hf : fX4_leastStep x1 x2 m = some r) : sm_Rt l mX4_leastStep 4 0 0 al al [.ref 3, .int x1, .int x2] (sm_hp m) (some (.int r), sm_hp m) := by
  refine sm_Rt.ofW (L := [.ref 3, .int x1, .int x2, .retAddr 0]) (by decide) (Nat.le_of_ble_eq_true rfl) rfl ?_
  unfold fX4_leastStep at hf
  refine w_blk bX4_leastStep_0 [.ref 3, .int x1, .int x2, .int (0 : Int32)] [] (sm_hp m) [] rfl (sm_on) ?_
  exact tX4_leastStep_2 sm_fu x1 x2 (0 : Int32) m r hf
set_option maxRecDepth 10000 in
theorem tX4_leastTrail_19 {l : Launch} {al : Bool} : ∀ (n : Nat) (v4 : Int32) (v5 : Int32) (v6 : Int32) (v7 : Int32) (m : sm_S) (r : Int32 × sm_S), fX4_leastTrail_19 n v4 v5 v6 v7 m = some r → sm_W l mX4_leastTrail 5 al (some (.int r.1), sm_hp r.2) 19 [.retAddr 0, .ref 3, .retAddr 0, .ref 14, .int v4, .int v5, .int v6, .int v7, .retAddr 0] [] (sm_hp m) := by
  intro n
  induction n with
  | zero =>
    intro v4 v5 v6 v7 m r hf
    unfold fX4_leastTrail_19 at hf
    cases hf
  | succ n ih =>
    intro v4 v5 v6 v7 m r hf
    unfold fX4_leastTrail_19 at hf
    refine w_blk bX4_leastTrail_19 [.retAddr 0, .ref 3, .retAddr 0, .ref 14, .int v4, .int v5, .int v6, .int v7, .retAddr 0] [.int (m.1 3 1), .int v7] (sm_hp m) [] rfl (sm_on) ?_
    refine w_icmp_ge (tgt := 92) dX4_leastTrail_25 rfl (fun hc => ?_) (fun hc => ?_)
    · replace hf := sm_ift hc hf
      refine w_blk bX4_leastTrail_92 [.retAddr 0, .ref 3, .retAddr 0, .ref 14, .int v4, .int v5, .int v6, .int v7, .retAddr 0] [.int v6] (sm_hp m) [] rfl (sm_on) ?_
      obtain rfl := Option.some.inj hf
      exact w_reti dX4_leastTrail_94 rfl rfl
    · replace hf := sm_iff hc hf
      refine w_blk bX4_leastTrail_28 [.retAddr 0, .ref 3, .retAddr 0, .ref 14, .int v4, .int v5, .int v6, .int v7, .retAddr 0] [.int v4, .int v5, .ref 3] (sm_hp m) [] rfl (sm_on) ?_
      replace hf := sm_bd hf
      obtain ⟨r6, q5, hf⟩ := hf
      refine w_callS [.ref 3, .int v5, .int v4] [] (tX4_leastStep v5 v4 m r6 q5) (csX4_42 rfl) dX4_leastTrail_33 rfl rfl (by decide) (by decide) (Nat.le_of_ble_eq_true rfl) ?_
      show sm_W _ _ _ _ _ 36 [.retAddr 0, .ref 3, .retAddr 0, .ref 14, .int v4, .int v5, .int v6, .int v7, .retAddr 0] [.int r6] (sm_hp m)
      refine w_blk bX4_leastTrail_36 [.retAddr 0, .ref 3, .retAddr 0, .ref 14, .int v4, .int v5, .int v6, .int v7, .int r6] [.int r6] (sm_hp m) [] rfl (sm_on) ?_
      refine w_if_ge (tgt := 46) dX4_leastTrail_40 rfl (fun hc => ?_) (fun hc => ?_)
      · replace hf := sm_ift hc hf
        refine w_blk bX4_leastTrail_46 [.retAddr 0, .ref 3, .retAddr 0, .ref 14, .int v4, .int v5, .int v6, .int v7, .int r6] [.int r6, .ref 14] (sm_hp m) [] rfl (sm_on) ?_
        replace hf := sm_bd hf
        obtain ⟨m8, q7, hf⟩ := hf
        refine w_callV [.int r6] [] (tX5_add r6 m m8 q7) (cvX4_46 rfl) dX4_leastTrail_49 rfl rfl (by decide) (by decide) rfl (Nat.le_of_ble_eq_true rfl) ?_
        show sm_W _ _ _ _ _ 52 [.retAddr 0, .ref 3, .retAddr 0, .ref 14, .int v4, .int v5, .int v6, .int v7, .int r6] [] (sm_hp m8)
        refine w_blk bX4_leastTrail_52 [.retAddr 0, .ref 3, .retAddr 0, .ref 14, .int v4, .int v5, .int v6, .int v7, .int r6] [.int v5, .int r6, .ref 3, .int v6] (sm_hp m8) [] rfl (sm_on) ?_
        replace hf := sm_bd hf
        obtain ⟨r10, q9, hf⟩ := hf
        refine w_callV [.int r6, .int v5] [.int v6] (tX2_minutesFrom r6 v5 m8 r10 q9) (cvX4_49 rfl) dX4_leastTrail_59 rfl rfl (by decide) (by decide) rfl (Nat.le_of_ble_eq_true rfl) ?_
        show sm_W _ _ _ _ _ 62 [.retAddr 0, .ref 3, .retAddr 0, .ref 14, .int v4, .int v5, .int v6, .int v7, .int r6] [.int r10, .int v6] (sm_hp m8)
        refine w_blk bX4_leastTrail_62 [.retAddr 0, .ref 3, .retAddr 0, .ref 14, .int v4, .int v5, .int (v6 + r10), .int v7, .int r6] [.int v5, .int r6, .ref 3] (sm_hp m8) [] rfl (sm_on) ?_
        replace hf := sm_bd hf
        obtain ⟨r12, q11, hf⟩ := hf
        refine w_callV [.int r6, .int v5] [] (tX2_otherEnd r6 v5 m8 r12 q11) (cvX4_53 rfl) dX4_leastTrail_70 rfl rfl (by decide) (by decide) rfl (Nat.le_of_ble_eq_true rfl) ?_
        show sm_W _ _ _ _ _ 73 [.retAddr 0, .ref 3, .retAddr 0, .ref 14, .int v4, .int v5, .int (v6 + r10), .int v7, .int r6] [.int r12] (sm_hp m8)
        refine w_blk bX4_leastTrail_73 [.retAddr 0, .ref 3, .retAddr 0, .ref 14, .int (v4 &&& (((1 : Int32) <<< (r6 &&& 31)) ^^^ (-1 : Int32))), .int r12, .int (v6 + r10), .int (v7 + (1 : Int32)), .int r6] [] (sm_hp m8) [] rfl (sm_on) ?_
        refine w_goto (tgt := 19) dX4_leastTrail_89 rfl ?_
        refine w_wk [false, true, false, true, true, true, true, true, false] ?_
        exact ih (v4 &&& (((1 : Int32) <<< (r6 &&& 31)) ^^^ (-1 : Int32))) r12 (v6 + r10) (v7 + (1 : Int32)) m8 r hf
      · replace hf := sm_iff hc hf
        refine w_blk bX4_leastTrail_43 [.retAddr 0, .ref 3, .retAddr 0, .ref 14, .int v4, .int v5, .int v6, .int v7, .int r6] [.int v6] (sm_hp m) [] rfl (sm_on) ?_
        obtain rfl := Option.some.inj hf
        exact w_reti dX4_leastTrail_45 rfl rfl
set_option maxRecDepth 10000 in
theorem tX4_leastTrail {l : Launch} {al : Bool} (x1 : Int32) (m : sm_S) (r : Int32 × sm_S) (hf : fX4_leastTrail x1 m = some r) : sm_Rt l mX4_leastTrail 5 0 0 al al [.ref 26, .ref 3, .int x1, .ref 14] (sm_hp m) (some (.int r.1), sm_hp r.2) := by
  refine sm_Rt.ofW (L := [.ref 26, .ref 3, .int x1, .ref 14, .retAddr 0, .retAddr 0, .retAddr 0, .retAddr 0, .retAddr 0]) (by decide) (Nat.le_of_ble_eq_true rfl) rfl ?_
  unfold fX4_leastTrail at hf
  refine w_blk bX4_leastTrail_0 [.ref 26, .ref 3, .int x1, .ref 14, .retAddr 0, .retAddr 0, .retAddr 0, .retAddr 0, .retAddr 0] [.ref 14] (sm_hp m) [] rfl (sm_on) ?_
  replace hf := sm_bd hf
  obtain ⟨m2, q1, hf⟩ := hf
  refine w_callV [] [] (tX5_clear m m2 q1) (cvX4_27 rfl) dX4_leastTrail_1 rfl rfl (by decide) (by decide) rfl (Nat.le_of_ble_eq_true rfl) ?_
  show sm_W _ _ _ _ _ 4 [.ref 26, .ref 3, .int x1, .ref 14, .retAddr 0, .retAddr 0, .retAddr 0, .retAddr 0, .retAddr 0] [] (sm_hp m2)
  refine w_blk bX4_leastTrail_4 [.ref 26, .ref 3, .int x1, .ref 14, .retAddr 0, .retAddr 0, .retAddr 0, .retAddr 0, .retAddr 0] [.ref 3] (sm_hp m2) [] rfl (sm_on) ?_
  replace hf := sm_bd hf
  obtain ⟨r4, q3, hf⟩ := hf
  refine w_callV [] [] (tX2_everyHedge m2 r4 q3) (cvX4_32 rfl) dX4_leastTrail_5 rfl rfl (by decide) (by decide) rfl (Nat.le_of_ble_eq_true rfl) ?_
  show sm_W _ _ _ _ _ 8 [.ref 26, .ref 3, .int x1, .ref 14, .retAddr 0, .retAddr 0, .retAddr 0, .retAddr 0, .retAddr 0] [.int r4] (sm_hp m2)
  refine w_blk bX4_leastTrail_8 [.ref 26, .ref 3, .int x1, .ref 14, .int r4, .int x1, .int (0 : Int32), .int (0 : Int32), .retAddr 0] [] (sm_hp m2) [] rfl (sm_on) ?_
  refine w_wk [false, true, false, true, true, true, true, true, false] ?_
  exact tX4_leastTrail_19 sm_fu r4 x1 (0 : Int32) (0 : Int32) m2 r hf
set_option maxRecDepth 10000 in
theorem tX11_trail {l : Launch} {al : Bool} (x1 : Int32) (m : sm_S) (r : Int32 × sm_S) (hf : fX11_trail x1 m = some r) : sm_Rt l mX11_trail 6 0 0 al al [.ref 0, .int x1] (sm_hp m) (some (.int r.1), sm_hp r.2) := by
  refine sm_Rt.ofW (L := [.ref 0, .int x1]) (by decide) (Nat.le_of_ble_eq_true rfl) rfl ?_
  unfold fX11_trail at hf
  refine w_blk bX11_trail_0 [.ref 0, .int x1] [.int x1, .ref 3] (sm_hp m) [] rfl (sm_on) ?_
  replace hf := sm_bd hf
  obtain ⟨r2, q1, hf⟩ := hf
  refine w_callV [.int x1] [] (tX2_hasCorner x1 m r2 q1) (cvX11_144 rfl) dX11_trail_5 rfl rfl (by decide) (by decide) rfl (Nat.le_of_ble_eq_true rfl) ?_
  show sm_W _ _ _ _ _ 8 [.ref 0, .int x1] [.int r2] (sm_hp m)
  refine w_if_ne (tgt := 13) dX11_trail_8 rfl (fun hc => ?_) (fun hc => ?_)
  · replace hf := sm_iff hc hf
    refine w_blk bX11_trail_13 [.ref 0, .int x1] [.ref 3, .int x1, .ref 3] (sm_hp m) [] rfl (sm_on) ?_
    replace hf := sm_bd hf
    obtain ⟨r4, q3, hf⟩ := hf
    refine w_callV [] [.int x1, .ref 3] (tX2_everyHedge m r4 q3) (cvX11_273 rfl) dX11_trail_22 rfl rfl (by decide) (by decide) rfl (Nat.le_of_ble_eq_true rfl) ?_
    show sm_W _ _ _ _ _ 25 [.ref 0, .int x1] [.int r4, .int x1, .ref 3] (sm_hp m)
    replace hf := sm_bd hf
    obtain ⟨r6, q5, hf⟩ := hf
    refine w_callV [.int x1, .int r4] [] (tX2_isTrail x1 r4 m r6 q5) (cvX11_287 rfl) dX11_trail_25 rfl rfl (by decide) (by decide) rfl (Nat.le_of_ble_eq_true rfl) ?_
    show sm_W _ _ _ _ _ 28 [.ref 0, .int x1] [.int r6] (sm_hp m)
    refine w_if_ne (tgt := 34) dX11_trail_28 rfl (fun hc => ?_) (fun hc => ?_)
    · replace hf := sm_iff hc hf
      refine w_blk bX11_trail_34 [.ref 0, .int x1] [.ref 14, .int x1, .ref 3, .ref 26] (sm_hp m) [] rfl (sm_on) ?_
      replace hf := sm_bd hf
      obtain ⟨r8, q7, hf⟩ := hf
      refine w_callV [.ref 3, .int x1, .ref 14] [] (tX4_leastTrail x1 m r8 q7) (cvX11_291 rfl) dX11_trail_47 rfl rfl (by decide) (by decide) rfl (Nat.le_of_ble_eq_true rfl) ?_
      show sm_W _ _ _ _ _ 50 [.ref 0, .int x1] [.int r8.1] (sm_hp r8.2)
      obtain rfl := Option.some.inj hf
      exact w_reti dX11_trail_50 rfl rfl
    · replace hf := sm_ift hc hf
      refine w_blk bX11_trail_31 [.ref 0, .int x1] [.int (-2 : Int32)] (sm_hp m) [] rfl (sm_on) ?_
      obtain rfl := Option.some.inj hf
      exact w_reti dX11_trail_33 rfl rfl
  · replace hf := sm_ift hc hf
    refine w_blk bX11_trail_11 [.ref 0, .int x1] [.int (-1 : Int32)] (sm_hp m) [] rfl (sm_on) ?_
    obtain rfl := Option.some.inj hf
    exact w_reti dX11_trail_12 rfl rfl
set_option maxRecDepth 10000 in
theorem tX2_hangsTogether {l : Launch} {al : Bool} (m : sm_S) (r : Int32) (hf : fX2_hangsTogether m = some r) : sm_Rt l mX2_hangsTogether 3 0 0 al al [.ref 3] (sm_hp m) (some (.int r), sm_hp m) := by
  refine sm_Rt.ofW (L := [.ref 3]) (by decide) (Nat.le_of_ble_eq_true rfl) rfl ?_
  unfold fX2_hangsTogether at hf
  refine w_blk bX2_hangsTogether_0 [.ref 3] [.int (m.1 3 1)] (sm_hp m) [] rfl (sm_on) ?_
  refine w_if_eq (tgt := 32) dX2_hangsTogether_4 rfl (fun hc => ?_) (fun hc => ?_)
  · replace hf := sm_ift hc hf
    refine w_blk bX2_hangsTogether_32 [.ref 3] [.int (1 : Int32)] (sm_hp m) [] rfl (sm_on) ?_
    refine w_goto (tgt := 37) dX2_hangsTogether_33 rfl ?_
    obtain rfl := Option.some.inj hf
    exact w_reti dX2_hangsTogether_37 rfl sm_nb1
  · replace hf := sm_iff hc hf
    refine w_blk bX2_hangsTogether_7 [.ref 3] [.ref 3, .int (m.1 6 0), .ref 3, .ref 3] (sm_hp m) [((0 : Int32), 14)] rfl (sm_oc (by decide) (sm_on)) ?_
    replace hf := sm_bd hf
    obtain ⟨r2, q1, hf⟩ := hf
    refine w_callV [] [.int (m.1 6 0), .ref 3, .ref 3] (tX2_everyHedge m r2 q1) (cvX2_65 rfl) dX2_hangsTogether_16 rfl rfl (by decide) (by decide) rfl (Nat.le_of_ble_eq_true rfl) ?_
    show sm_W _ _ _ _ _ 19 [.ref 3] [.int r2, .int (m.1 6 0), .ref 3, .ref 3] (sm_hp m)
    replace hf := sm_bd hf
    obtain ⟨r4, q3, hf⟩ := hf
    refine w_callV [.int (m.1 6 0), .int r2] [.ref 3] (tX2_hanging (m.1 6 0) r2 m r4 q3) (cvX2_69 rfl) dX2_hangsTogether_19 rfl rfl (by decide) (by decide) rfl (Nat.le_of_ble_eq_true rfl) ?_
    show sm_W _ _ _ _ _ 22 [.ref 3] [.int r4, .ref 3] (sm_hp m)
    refine w_blk bX2_hangsTogether_22 [.ref 3] [.ref 3, .int r4, .ref 3] (sm_hp m) [] rfl (sm_on) ?_
    replace hf := sm_bd hf
    obtain ⟨r6, q5, hf⟩ := hf
    refine w_callV [] [.int r4, .ref 3] (tX2_everyHedge m r6 q5) (cvX2_65 rfl) dX2_hangsTogether_23 rfl rfl (by decide) (by decide) rfl (Nat.le_of_ble_eq_true rfl) ?_
    show sm_W _ _ _ _ _ 26 [.ref 3] [.int r6, .int r4, .ref 3] (sm_hp m)
    replace hf := sm_bd hf
    obtain ⟨r8, q7, hf⟩ := hf
    refine w_callV [.int r4, .int r6] [] (tX2_holdsAll r4 r6 m r8 q7) (cvX2_73 rfl) dX2_hangsTogether_26 rfl rfl (by decide) (by decide) rfl (Nat.le_of_ble_eq_true rfl) ?_
    show sm_W _ _ _ _ _ 29 [.ref 3] [.int r8] (sm_hp m)
    refine w_if_eq (tgt := 36) dX2_hangsTogether_29 rfl (fun hc => ?_) (fun hc => ?_)
    · replace hf := sm_ift hc hf
      refine w_blk bX2_hangsTogether_36 [.ref 3] [.int (0 : Int32)] (sm_hp m) [] rfl (sm_on) ?_
      obtain rfl := Option.some.inj hf
      exact w_reti dX2_hangsTogether_37 rfl sm_nb0
    · replace hf := sm_iff hc hf
      refine w_blk bX2_hangsTogether_32 [.ref 3] [.int (1 : Int32)] (sm_hp m) [] rfl (sm_on) ?_
      refine w_goto (tgt := 37) dX2_hangsTogether_33 rfl ?_
      obtain rfl := Option.some.inj hf
      exact w_reti dX2_hangsTogether_37 rfl sm_nb1
set_option maxRecDepth 10000 in
theorem tX4_sortEnds_32 {l : Launch} {al : Bool} : ∀ (n : Nat) (v2 : Int32) (m : sm_S) (r : sm_S), fX4_sortEnds_32 n v2 m = some r → sm_W l mX4_sortEnds 1 al (none, sm_hp r) 32 [.ref 26, .ref 3, .int v2] [] (sm_hp m) := by
  intro n
  induction n with
  | zero =>
    intro v2 m r hf
    unfold fX4_sortEnds_32 at hf
    cases hf
  | succ n ih =>
    intro v2 m r hf
    unfold fX4_sortEnds_32 at hf
    refine w_blk bX4_sortEnds_32 [.ref 26, .ref 3, .int v2] [.int (m.1 3 1), .int v2] (sm_hp m) [] rfl (sm_on) ?_
    refine w_icmp_ge (tgt := 80) dX4_sortEnds_37 rfl (fun hc => ?_) (fun hc => ?_)
    · replace hf := sm_ift hc hf
      obtain rfl := Option.some.inj hf
      exact w_retv dX4_sortEnds_80 rfl
    · replace hf := sm_iff hc hf
      replace hf := sm_ck hf
      obtain ⟨q1, hf⟩ := hf
      replace hf := sm_ck hf
      obtain ⟨q2, hf⟩ := hf
      replace hf := sm_ck hf
      obtain ⟨q3, hf⟩ := hf
      replace hf := sm_ck hf
      obtain ⟨q4, hf⟩ := hf
      replace hf := sm_ck hf
      obtain ⟨q5, hf⟩ := hf
      replace hf := sm_ck hf
      obtain ⟨q6, hf⟩ := hf
      refine w_blk bX4_sortEnds_40 [.ref 26, .ref 3, .int (v2 + (1 : Int32))] [] (sm_hp (sm_w1 (sm_w1 m 27 (m.1 6 (v2).toNatClampNeg).toNatClampNeg ((m.1 27 (m.1 6 (v2).toNatClampNeg).toNatClampNeg) ||| ((1 : Int32) <<< (v2 &&& 31)))) 28 (m.1 7 (v2).toNatClampNeg).toNatClampNeg ((m.1 28 (m.1 7 (v2).toNatClampNeg).toNatClampNeg) ||| ((1 : Int32) <<< (v2 &&& 31))))) [(v2, 14), ((m.1 6 (v2).toNatClampNeg), 10), ((m.1 6 (v2).toNatClampNeg), 10), (v2, 14), ((m.1 7 (v2).toNatClampNeg), 10), ((m.1 7 (v2).toNatClampNeg), 10)] rfl (sm_oc q1 (sm_oc q2 (sm_oc q3 (sm_oc q4 (sm_oc q5 (sm_oc q6 (sm_on))))))) ?_
      refine w_goto (tgt := 32) dX4_sortEnds_77 rfl ?_
      exact ih (v2 + (1 : Int32)) (sm_w1 (sm_w1 m 27 (m.1 6 (v2).toNatClampNeg).toNatClampNeg ((m.1 27 (m.1 6 (v2).toNatClampNeg).toNatClampNeg) ||| ((1 : Int32) <<< (v2 &&& 31)))) 28 (m.1 7 (v2).toNatClampNeg).toNatClampNeg ((m.1 28 (m.1 7 (v2).toNatClampNeg).toNatClampNeg) ||| ((1 : Int32) <<< (v2 &&& 31)))) r hf
set_option maxRecDepth 10000 in
theorem tX4_sortEnds_2 {l : Launch} {al : Bool} : ∀ (n : Nat) (v2 : Int32) (m : sm_S) (r : sm_S), fX4_sortEnds_2 n v2 m = some r → sm_W l mX4_sortEnds 1 al (none, sm_hp r) 2 [.ref 26, .ref 3, .int v2] [] (sm_hp m) := by
  intro n
  induction n with
  | zero =>
    intro v2 m r hf
    unfold fX4_sortEnds_2 at hf
    cases hf
  | succ n ih =>
    intro v2 m r hf
    unfold fX4_sortEnds_2 at hf
    refine w_blk bX4_sortEnds_2 [.ref 26, .ref 3, .int v2] [.int (m.1 3 0), .int v2] (sm_hp m) [] rfl (sm_on) ?_
    refine w_icmp_ge (tgt := 30) dX4_sortEnds_7 rfl (fun hc => ?_) (fun hc => ?_)
    · replace hf := sm_ift hc hf
      refine w_blk bX4_sortEnds_30 [.ref 26, .ref 3, .int (0 : Int32)] [] (sm_hp m) [] rfl (sm_on) ?_
      exact tX4_sortEnds_32 sm_fu (0 : Int32) m r hf
    · replace hf := sm_iff hc hf
      replace hf := sm_ck hf
      obtain ⟨q7, hf⟩ := hf
      replace hf := sm_ck hf
      obtain ⟨q8, hf⟩ := hf
      refine w_blk bX4_sortEnds_10 [.ref 26, .ref 3, .int (v2 + (1 : Int32))] [] (sm_hp (sm_w1 (sm_w1 m 27 (v2).toNatClampNeg (0 : Int32)) 28 (v2).toNatClampNeg (0 : Int32))) [(v2, 10), (v2, 10)] rfl (sm_oc q7 (sm_oc q8 (sm_on))) ?_
      refine w_goto (tgt := 2) dX4_sortEnds_27 rfl ?_
      exact ih (v2 + (1 : Int32)) (sm_w1 (sm_w1 m 27 (v2).toNatClampNeg (0 : Int32)) 28 (v2).toNatClampNeg (0 : Int32)) r hf
set_option maxRecDepth 10000 in
theorem tX4_sortEnds {l : Launch} {al : Bool} (m : sm_S) (r : sm_S) (hf : fX4_sortEnds m = some r) : sm_Rt l mX4_sortEnds 1 0 0 al al [.ref 26, .ref 3] (sm_hp m) (none, sm_hp r) := by
  refine sm_Rt.ofW (L := [.ref 26, .ref 3, .retAddr 0]) (by decide) (Nat.le_of_ble_eq_true rfl) rfl ?_
  unfold fX4_sortEnds at hf
  refine w_blk bX4_sortEnds_0 [.ref 26, .ref 3, .int (0 : Int32)] [] (sm_hp m) [] rfl (sm_on) ?_
  exact tX4_sortEnds_2 sm_fu (0 : Int32) m r hf
set_option maxRecDepth 10000 in
theorem tX4_isBalanced_2 {l : Launch} {al : Bool} : ∀ (n : Nat) (v2 : Int32) (v3 : Int32) (m : sm_S) (r : Int32), fX4_isBalanced_2 n v2 v3 m = some r → sm_W l mX4_isBalanced 2 al (some (.int r), sm_hp m) 2 [.ref 26, .ref 3, .int v2, .int v3, .retAddr 0, .retAddr 0] [] (sm_hp m) := by
  intro n
  induction n with
  | zero =>
    intro v2 v3 m r hf
    unfold fX4_isBalanced_2 at hf
    cases hf
  | succ n ih =>
    intro v2 v3 m r hf
    unfold fX4_isBalanced_2 at hf
    refine w_blk bX4_isBalanced_2 [.ref 26, .ref 3, .int v2, .int v3, .retAddr 0, .retAddr 0] [.int (m.1 3 0), .int v3] (sm_hp m) [] rfl (sm_on) ?_
    refine w_icmp_ge (tgt := 69) dX4_isBalanced_7 rfl (fun hc => ?_) (fun hc => ?_)
    · replace hf := sm_ift hc hf
      refine w_blk bX4_isBalanced_69 [.ref 26, .ref 3, .int v2, .int v3, .retAddr 0, .retAddr 0] [.int (1 : Int32)] (sm_hp m) [] rfl (sm_on) ?_
      obtain rfl := Option.some.inj hf
      exact w_reti dX4_isBalanced_70 rfl sm_nb1
    · replace hf := sm_iff hc hf
      replace hf := sm_ck hf
      obtain ⟨q1, hf⟩ := hf
      replace hf := sm_ck hf
      obtain ⟨q2, hf⟩ := hf
      replace hf := sm_ck hf
      obtain ⟨q3, hf⟩ := hf
      replace hf := sm_ck hf
      obtain ⟨q4, hf⟩ := hf
      refine w_blk bX4_isBalanced_10 [.ref 26, .ref 3, .int v2, .int v3, .int (((m.1 27 (v3).toNatClampNeg) &&& (v2 ^^^ (-1 : Int32))) ||| ((m.1 28 (v3).toNatClampNeg) &&& v2)), .retAddr 0] [.int ((m.1 27 (v3).toNatClampNeg) ||| (m.1 28 (v3).toNatClampNeg))] (sm_hp m) [(v3, 10), (v3, 10), (v3, 10), (v3, 10)] rfl (sm_oc q1 (sm_oc q2 (sm_oc q3 (sm_oc q4 (sm_on))))) ?_
      replace hf := sm_bd hf
      obtain ⟨r6, q5, hf⟩ := hf
      refine w_callS [.int ((m.1 27 (v3).toNatClampNeg) ||| (m.1 28 (v3).toNatClampNeg))] [] (tJ6_bitCount_0f7a4 ((m.1 27 (v3).toNatClampNeg) ||| (m.1 28 (v3).toNatClampNeg)) m r6 q5) (csX4_88 rfl) dX4_isBalanced_44 rfl rfl (by decide) (by decide) (Nat.le_of_ble_eq_true rfl) ?_
      show sm_W _ _ _ _ _ 47 [.ref 26, .ref 3, .int v2, .int v3, .int (((m.1 27 (v3).toNatClampNeg) &&& (v2 ^^^ (-1 : Int32))) ||| ((m.1 28 (v3).toNatClampNeg) &&& v2)), .retAddr 0] [.int r6] (sm_hp m)
      refine w_blk bX4_isBalanced_47 [.ref 26, .ref 3, .int v2, .int v3, .int (((m.1 27 (v3).toNatClampNeg) &&& (v2 ^^^ (-1 : Int32))) ||| ((m.1 28 (v3).toNatClampNeg) &&& v2)), .int r6] [.int (((m.1 27 (v3).toNatClampNeg) &&& (v2 ^^^ (-1 : Int32))) ||| ((m.1 28 (v3).toNatClampNeg) &&& v2)), .int (2 : Int32)] (sm_hp m) [] rfl (sm_on) ?_
      replace hf := sm_bd hf
      obtain ⟨r8, q7, hf⟩ := hf
      refine w_callS [.int (((m.1 27 (v3).toNatClampNeg) &&& (v2 ^^^ (-1 : Int32))) ||| ((m.1 28 (v3).toNatClampNeg) &&& v2))] [.int (2 : Int32)] (tJ6_bitCount_0f7a4 (((m.1 27 (v3).toNatClampNeg) &&& (v2 ^^^ (-1 : Int32))) ||| ((m.1 28 (v3).toNatClampNeg) &&& v2)) m r8 q7) (csX4_88 rfl) dX4_isBalanced_52 rfl rfl (by decide) (by decide) (Nat.le_of_ble_eq_true rfl) ?_
      show sm_W _ _ _ _ _ 55 [.ref 26, .ref 3, .int v2, .int v3, .int (((m.1 27 (v3).toNatClampNeg) &&& (v2 ^^^ (-1 : Int32))) ||| ((m.1 28 (v3).toNatClampNeg) &&& v2)), .int r6] [.int r8, .int (2 : Int32)] (sm_hp m)
      refine w_blk bX4_isBalanced_55 [.ref 26, .ref 3, .int v2, .int v3, .int (((m.1 27 (v3).toNatClampNeg) &&& (v2 ^^^ (-1 : Int32))) ||| ((m.1 28 (v3).toNatClampNeg) &&& v2)), .int r6] [.int r6, .int ((2 : Int32) * r8)] (sm_hp m) [] rfl (sm_on) ?_
      refine w_icmp_eq (tgt := 63) dX4_isBalanced_58 rfl (fun hc => ?_) (fun hc => ?_)
      · replace hf := sm_ift hc hf
        refine w_blk bX4_isBalanced_63 [.ref 26, .ref 3, .int v2, .int (v3 + (1 : Int32)), .int (((m.1 27 (v3).toNatClampNeg) &&& (v2 ^^^ (-1 : Int32))) ||| ((m.1 28 (v3).toNatClampNeg) &&& v2)), .int r6] [] (sm_hp m) [] rfl (sm_on) ?_
        refine w_goto (tgt := 2) dX4_isBalanced_66 rfl ?_
        refine w_wk [true, true, true, true, false, false] ?_
        exact ih v2 (v3 + (1 : Int32)) m r hf
      · replace hf := sm_iff hc hf
        refine w_blk bX4_isBalanced_61 [.ref 26, .ref 3, .int v2, .int v3, .int (((m.1 27 (v3).toNatClampNeg) &&& (v2 ^^^ (-1 : Int32))) ||| ((m.1 28 (v3).toNatClampNeg) &&& v2)), .int r6] [.int (0 : Int32)] (sm_hp m) [] rfl (sm_on) ?_
        obtain rfl := Option.some.inj hf
        exact w_reti dX4_isBalanced_62 rfl sm_nb0
set_option maxRecDepth 10000 in
theorem tX4_isBalanced {l : Launch} {al : Bool} (x1 : Int32) (m : sm_S) (r : Int32) (hf : fX4_isBalanced x1 m = some r) : sm_Rt l mX4_isBalanced 2 0 0 al al [.ref 26, .ref 3, .int x1] (sm_hp m) (some (.int r), sm_hp m) := by
  refine sm_Rt.ofW (L := [.ref 26, .ref 3, .int x1, .retAddr 0, .retAddr 0, .retAddr 0]) (by decide) (Nat.le_of_ble_eq_true rfl) rfl ?_
  unfold fX4_isBalanced at hf
  refine w_blk bX4_isBalanced_0 [.ref 26, .ref 3, .int x1, .int (0 : Int32), .retAddr 0, .retAddr 0] [] (sm_hp m) [] rfl (sm_on) ?_
  exact tX4_isBalanced_2 sm_fu x1 (0 : Int32) m r hf
set_option maxRecDepth 10000 in
theorem tX4_windOf_5 {l : Launch} {al : Bool} : ∀ (n : Nat) (v2 : Int32) (v3 : Int32) (v4 : Int32) (m : sm_S) (r : Int32), fX4_windOf_5 n v2 v3 v4 m = some r → sm_W l mX4_windOf 1 al (some (.int r), sm_hp m) 5 [.retAddr 0, .ref 3, .int v2, .int v3, .int v4] [] (sm_hp m) := by
  intro n
  induction n with
  | zero =>
    intro v2 v3 v4 m r hf
    unfold fX4_windOf_5 at hf
    cases hf
  | succ n ih =>
    intro v2 v3 v4 m r hf
    unfold fX4_windOf_5 at hf
    refine w_blk bX4_windOf_5 [.retAddr 0, .ref 3, .int v2, .int v3, .int v4] [.int (m.1 3 1), .int v4] (sm_hp m) [] rfl (sm_on) ?_
    refine w_icmp_ge (tgt := 39) dX4_windOf_11 rfl (fun hc => ?_) (fun hc => ?_)
    · replace hf := sm_ift hc hf
      refine w_blk bX4_windOf_39 [.retAddr 0, .ref 3, .int v2, .int v3, .int v4] [.int v3] (sm_hp m) [] rfl (sm_on) ?_
      obtain rfl := Option.some.inj hf
      exact w_reti dX4_windOf_40 rfl rfl
    · replace hf := sm_iff hc hf
      refine w_blk bX4_windOf_14 [.retAddr 0, .ref 3, .int v2, .int v3, .int v4] [.int ((v2 >>> (v4 &&& 31)) &&& (1 : Int32))] (sm_hp m) [] rfl (sm_on) ?_
      refine w_if_eq (tgt := 33) dX4_windOf_20 rfl (fun hc => ?_) (fun hc => ?_)
      · replace hf := sm_ift hc hf
        refine w_blk bX4_windOf_33 [.retAddr 0, .ref 3, .int v2, .int v3, .int (v4 + (1 : Int32))] [] (sm_hp m) [] rfl (sm_on) ?_
        refine w_goto (tgt := 5) dX4_windOf_36 rfl ?_
        exact ih v2 v3 (v4 + (1 : Int32)) m r hf
      · replace hf := sm_iff hc hf
        replace hf := sm_ck hf
        obtain ⟨q1, hf⟩ := hf
        refine w_blk bX4_windOf_23 [.retAddr 0, .ref 3, .int v2, .int (v3 + (m.1 12 (v4).toNatClampNeg)), .int v4] [] (sm_hp m) [(v4, 14)] rfl (sm_oc q1 (sm_on)) ?_
        refine w_blk bX4_windOf_33 [.retAddr 0, .ref 3, .int v2, .int (v3 + (m.1 12 (v4).toNatClampNeg)), .int (v4 + (1 : Int32))] [] (sm_hp m) [] rfl (sm_on) ?_
        refine w_goto (tgt := 5) dX4_windOf_36 rfl ?_
        exact ih v2 (v3 + (m.1 12 (v4).toNatClampNeg)) (v4 + (1 : Int32)) m r hf
set_option maxRecDepth 10000 in
theorem tX4_windOf {l : Launch} {al : Bool} (x1 : Int32) (m : sm_S) (r : Int32) (hf : fX4_windOf x1 m = some r) : sm_Rt l mX4_windOf 1 0 0 al al [.ref 26, .ref 3, .int x1] (sm_hp m) (some (.int r), sm_hp m) := by
  refine sm_Rt.ofW (L := [.ref 26, .ref 3, .int x1, .retAddr 0, .retAddr 0]) (by decide) (Nat.le_of_ble_eq_true rfl) rfl ?_
  unfold fX4_windOf at hf
  refine w_blk bX4_windOf_0 [.ref 26, .ref 3, .int x1, .int (0 : Int32), .int (0 : Int32)] [] (sm_hp m) [] rfl (sm_on) ?_
  refine w_wk [false, true, true, true, true] ?_
  exact tX4_windOf_5 sm_fu x1 (0 : Int32) (0 : Int32) m r hf
set_option maxRecDepth 10000 in
theorem tX4_cheapestTurns_13 {l : Launch} {al : Bool} : ∀ (n : Nat) (v2 : Int32) (v3 : Int32) (v4 : Int32) (m : sm_S) (r : Int32 × sm_S), fX4_cheapestTurns_13 n v2 v3 v4 m = some r → sm_W l mX4_cheapestTurns 3 al (some (.int r.1), sm_hp r.2) 13 [.ref 26, .ref 3, .int v2, .int v3, .int v4, .retAddr 0] [] (sm_hp m) := by
  intro n
  induction n with
  | zero =>
    intro v2 v3 v4 m r hf
    unfold fX4_cheapestTurns_13 at hf
    cases hf
  | succ n ih =>
    intro v2 v3 v4 m r hf
    unfold fX4_cheapestTurns_13 at hf
    refine w_blk bX4_cheapestTurns_13 [.ref 26, .ref 3, .int v2, .int v3, .int v4, .retAddr 0] [.ref 3, .int v4] (sm_hp m) [] rfl (sm_on) ?_
    replace hf := sm_bd hf
    obtain ⟨r4, q3, hf⟩ := hf
    refine w_callV [] [.int v4] (tX2_everyHedge m r4 q3) (cvX4_32 rfl) dX4_cheapestTurns_16 rfl rfl (by decide) (by decide) rfl (Nat.le_of_ble_eq_true rfl) ?_
    show sm_W _ _ _ _ _ 19 [.ref 26, .ref 3, .int v2, .int v3, .int v4, .retAddr 0] [.int r4, .int v4] (sm_hp m)
    refine w_icmp_gt (tgt := 59) dX4_cheapestTurns_19 rfl (fun hc => ?_) (fun hc => ?_)
    · replace hf := sm_ift hc hf
      refine w_blk bX4_cheapestTurns_59 [.ref 26, .ref 3, .int v2, .int v3, .int v4, .retAddr 0] [.int v2] (sm_hp m) [] rfl (sm_on) ?_
      obtain rfl := Option.some.inj hf
      exact w_reti dX4_cheapestTurns_60 rfl rfl
    · replace hf := sm_iff hc hf
      refine w_blk bX4_cheapestTurns_22 [.ref 26, .ref 3, .int v2, .int v3, .int v4, .retAddr 0] [.int v4, .ref 3, .ref 26] (sm_hp m) [] rfl (sm_on) ?_
      replace hf := sm_bd hf
      obtain ⟨r6, q5, hf⟩ := hf
      refine w_callV [.ref 3, .int v4] [] (tX4_isBalanced v4 m r6 q5) (cvX4_71 rfl) dX4_cheapestTurns_26 rfl rfl (by decide) (by decide) rfl (Nat.le_of_ble_eq_true rfl) ?_
      show sm_W _ _ _ _ _ 29 [.ref 26, .ref 3, .int v2, .int v3, .int v4, .retAddr 0] [.int r6] (sm_hp m)
      refine w_if_eq (tgt := 53) dX4_cheapestTurns_29 rfl (fun hc => ?_) (fun hc => ?_)
      · replace hf := sm_ift hc hf
        refine w_blk bX4_cheapestTurns_53 [.ref 26, .ref 3, .int v2, .int v3, .int (v4 + (1 : Int32)), .retAddr 0] [] (sm_hp m) [] rfl (sm_on) ?_
        refine w_goto (tgt := 13) dX4_cheapestTurns_56 rfl ?_
        exact ih v2 v3 (v4 + (1 : Int32)) m r hf
      · replace hf := sm_iff hc hf
        refine w_blk bX4_cheapestTurns_32 [.ref 26, .ref 3, .int v2, .int v3, .int v4, .retAddr 0] [.int v4, .ref 3, .ref 26] (sm_hp m) [] rfl (sm_on) ?_
        replace hf := sm_bd hf
        obtain ⟨r8, q7, hf⟩ := hf
        refine w_callV [.ref 3, .int v4] [] (tX4_windOf v4 m r8 q7) (cvX4_75 rfl) dX4_cheapestTurns_36 rfl rfl (by decide) (by decide) rfl (Nat.le_of_ble_eq_true rfl) ?_
        show sm_W _ _ _ _ _ 39 [.ref 26, .ref 3, .int v2, .int v3, .int v4, .retAddr 0] [.int r8] (sm_hp m)
        refine w_blk bX4_cheapestTurns_39 [.ref 26, .ref 3, .int v2, .int v3, .int v4, .int r8] [.int v3, .int r8] (sm_hp m) [] rfl (sm_on) ?_
        refine w_icmp_ge (tgt := 53) dX4_cheapestTurns_44 rfl (fun hc => ?_) (fun hc => ?_)
        · replace hf := sm_ift hc hf
          refine w_blk bX4_cheapestTurns_53 [.ref 26, .ref 3, .int v2, .int v3, .int (v4 + (1 : Int32)), .int r8] [] (sm_hp m) [] rfl (sm_on) ?_
          refine w_goto (tgt := 13) dX4_cheapestTurns_56 rfl ?_
          refine w_wk [true, true, true, true, true, false] ?_
          exact ih v2 v3 (v4 + (1 : Int32)) m r hf
        · replace hf := sm_iff hc hf
          refine w_blk bX4_cheapestTurns_47 [.ref 26, .ref 3, .int v4, .int r8, .int v4, .int r8] [] (sm_hp m) [] rfl (sm_on) ?_
          refine w_blk bX4_cheapestTurns_53 [.ref 26, .ref 3, .int v4, .int r8, .int (v4 + (1 : Int32)), .int r8] [] (sm_hp m) [] rfl (sm_on) ?_
          refine w_goto (tgt := 13) dX4_cheapestTurns_56 rfl ?_
          refine w_wk [true, true, true, true, true, false] ?_
          exact ih v4 r8 (v4 + (1 : Int32)) m r hf
set_option maxRecDepth 10000 in
theorem tX4_cheapestTurns {l : Launch} {al : Bool} (m : sm_S) (r : Int32 × sm_S) (hf : fX4_cheapestTurns m = some r) : sm_Rt l mX4_cheapestTurns 3 0 0 al al [.ref 26, .ref 3] (sm_hp m) (some (.int r.1), sm_hp r.2) := by
  refine sm_Rt.ofW (L := [.ref 26, .ref 3, .retAddr 0, .retAddr 0, .retAddr 0, .retAddr 0]) (by decide) (Nat.le_of_ble_eq_true rfl) rfl ?_
  unfold fX4_cheapestTurns at hf
  refine w_blk bX4_cheapestTurns_0 [.ref 26, .ref 3, .retAddr 0, .retAddr 0, .retAddr 0, .retAddr 0] [.ref 3, .ref 26] (sm_hp m) [] rfl (sm_on) ?_
  replace hf := sm_bd hf
  obtain ⟨m2, q1, hf⟩ := hf
  refine w_callV [.ref 3] [] (tX4_sortEnds m m2 q1) (cvX4_66 rfl) dX4_cheapestTurns_2 rfl rfl (by decide) (by decide) rfl (Nat.le_of_ble_eq_true rfl) ?_
  show sm_W _ _ _ _ _ 5 [.ref 26, .ref 3, .retAddr 0, .retAddr 0, .retAddr 0, .retAddr 0] [] (sm_hp m2)
  refine w_blk bX4_cheapestTurns_5 [.ref 26, .ref 3, .int (0 : Int32), .int (65535 : Int32), .int (0 : Int32), .retAddr 0] [] (sm_hp m2) [] rfl (sm_on) ?_
  exact tX4_cheapestTurns_13 sm_fu (0 : Int32) (65535 : Int32) (0 : Int32) m2 r hf
set_option maxRecDepth 10000 in
theorem tX11_round_49 {l : Launch} {al : Bool} : ∀ (n : Nat) (v2 : Int32) (v3 : Int32) (v4 : Int32) (m : sm_S) (r : Int32 × sm_S), fX11_round_49 n v2 v3 v4 m = some r → sm_W l mX11_round 4 al (some (.int r.1), sm_hp r.2) 49 [.ref 0, .retAddr 0, .int v2, .int v3, .int v4] [] (sm_hp m) := by
  intro n
  induction n with
  | zero =>
    intro v2 v3 v4 m r hf
    unfold fX11_round_49 at hf
    cases hf
  | succ n ih =>
    intro v2 v3 v4 m r hf
    unfold fX11_round_49 at hf
    refine w_blk bX11_round_49 [.ref 0, .retAddr 0, .int v2, .int v3, .int v4] [.int (m.1 3 1), .int v4] (sm_hp m) [] rfl (sm_on) ?_
    refine w_icmp_ge (tgt := 80) dX11_round_58 rfl (fun hc => ?_) (fun hc => ?_)
    · replace hf := sm_ift hc hf
      refine w_blk bX11_round_80 [.ref 0, .retAddr 0, .int v2, .int v3, .int v4] [.int v2, .ref 14] (sm_hp m) [] rfl (sm_on) ?_
      replace hf := sm_bd hf
      obtain ⟨m10, q9, hf⟩ := hf
      refine w_callV [.int v2] [] (tX5_tell v2 m m10 q9) (cvX11_224 rfl) dX11_round_85 rfl rfl (by decide) (by decide) rfl (Nat.le_of_ble_eq_true rfl) ?_
      show sm_W _ _ _ _ _ 88 [.ref 0, .retAddr 0, .int v2, .int v3, .int v4] [] (sm_hp m10)
      refine w_blk bX11_round_88 [.ref 0, .retAddr 0, .int v2, .int v3, .int v4] [.int v2, .ref 3, .ref 26, .int v3] (sm_hp m10) [] rfl (sm_on) ?_
      replace hf := sm_bd hf
      obtain ⟨r12, q11, hf⟩ := hf
      refine w_callV [.ref 3, .int v2] [.int v3] (tX4_windOf v2 m10 r12 q11) (cvX11_301 rfl) dX11_round_98 rfl rfl (by decide) (by decide) rfl (Nat.le_of_ble_eq_true rfl) ?_
      show sm_W _ _ _ _ _ 101 [.ref 0, .retAddr 0, .int v2, .int v3, .int v4] [.int r12, .int v3] (sm_hp m10)
      refine w_blk bX11_round_101 [.ref 0, .retAddr 0, .int v2, .int v3, .int v4] [.int (v3 + r12)] (sm_hp m10) [] rfl (sm_on) ?_
      obtain rfl := Option.some.inj hf
      exact w_reti dX11_round_102 rfl rfl
    · replace hf := sm_iff hc hf
      replace hf := sm_ck hf
      obtain ⟨q13, hf⟩ := hf
      refine w_blk bX11_round_61 [.ref 0, .retAddr 0, .int v2, .int (v3 + (m.1 8 (v4).toNatClampNeg)), .int (v4 + (1 : Int32))] [] (sm_hp m) [(v4, 14)] rfl (sm_oc q13 (sm_on)) ?_
      refine w_goto (tgt := 49) dX11_round_77 rfl ?_
      exact ih v2 (v3 + (m.1 8 (v4).toNatClampNeg)) (v4 + (1 : Int32)) m r hf
set_option maxRecDepth 10000 in
theorem tX11_round {l : Launch} {al : Bool} (m : sm_S) (r : Int32 × sm_S) (hf : fX11_round m = some r) : sm_Rt l mX11_round 4 0 0 al al [.ref 0] (sm_hp m) (some (.int r.1), sm_hp r.2) := by
  refine sm_Rt.ofW (L := [.ref 0, .retAddr 0, .retAddr 0, .retAddr 0, .retAddr 0]) (by decide) (Nat.le_of_ble_eq_true rfl) rfl ?_
  unfold fX11_round at hf
  refine w_blk bX11_round_0 [.ref 0, .retAddr 0, .retAddr 0, .retAddr 0, .retAddr 0] [.ref 3] (sm_hp m) [] rfl (sm_on) ?_
  replace hf := sm_bd hf
  obtain ⟨r2, q1, hf⟩ := hf
  refine w_callV [] [] (tX2_everyHedge m r2 q1) (cvX11_273 rfl) dX11_round_4 rfl rfl (by decide) (by decide) rfl (Nat.le_of_ble_eq_true rfl) ?_
  show sm_W _ _ _ _ _ 7 [.ref 0, .retAddr 0, .retAddr 0, .retAddr 0, .retAddr 0] [.int r2] (sm_hp m)
  refine w_blk bX11_round_7 [.ref 0, .int r2, .retAddr 0, .retAddr 0, .retAddr 0] [.int r2, .ref 3] (sm_hp m) [] rfl (sm_on) ?_
  replace hf := sm_bd hf
  obtain ⟨r4, q3, hf⟩ := hf
  refine w_callV [.int r2] [] (tX2_oddCorners r2 m r4 q3) (cvX11_276 rfl) dX11_round_13 rfl rfl (by decide) (by decide) rfl (Nat.le_of_ble_eq_true rfl) ?_
  show sm_W _ _ _ _ _ 16 [.ref 0, .int r2, .retAddr 0, .retAddr 0, .retAddr 0] [.int r4] (sm_hp m)
  refine w_if_ne (tgt := 29) dX11_round_16 rfl (fun hc => ?_) (fun hc => ?_)
  · replace hf := sm_iff hc hf
    refine w_blk bX11_round_29 [.ref 0, .int r2, .retAddr 0, .retAddr 0, .retAddr 0] [.int (-2 : Int32)] (sm_hp m) [] rfl (sm_on) ?_
    obtain rfl := Option.some.inj hf
    exact w_reti dX11_round_31 rfl rfl
  · replace hf := sm_ift hc hf
    refine w_blk bX11_round_19 [.ref 0, .int r2, .retAddr 0, .retAddr 0, .retAddr 0] [.ref 3] (sm_hp m) [] rfl (sm_on) ?_
    replace hf := sm_bd hf
    obtain ⟨r6, q5, hf⟩ := hf
    refine w_callV [] [] (tX2_hangsTogether m r6 q5) (cvX11_295 rfl) dX11_round_23 rfl rfl (by decide) (by decide) rfl (Nat.le_of_ble_eq_true rfl) ?_
    show sm_W _ _ _ _ _ 26 [.ref 0, .int r2, .retAddr 0, .retAddr 0, .retAddr 0] [.int r6] (sm_hp m)
    refine w_if_ne (tgt := 32) dX11_round_26 rfl (fun hc => ?_) (fun hc => ?_)
    · replace hf := sm_iff hc hf
      refine w_blk bX11_round_32 [.ref 0, .int r2, .retAddr 0, .retAddr 0, .retAddr 0] [.ref 3, .ref 26] (sm_hp m) [] rfl (sm_on) ?_
      replace hf := sm_bd hf
      obtain ⟨r8, q7, hf⟩ := hf
      refine w_callV [.ref 3] [] (tX4_cheapestTurns m r8 q7) (cvX11_298 rfl) dX11_round_40 rfl rfl (by decide) (by decide) rfl (Nat.le_of_ble_eq_true rfl) ?_
      show sm_W _ _ _ _ _ 43 [.ref 0, .int r2, .retAddr 0, .retAddr 0, .retAddr 0] [.int r8.1] (sm_hp r8.2)
      refine w_blk bX11_round_43 [.ref 0, .int r2, .int r8.1, .int (0 : Int32), .int (0 : Int32)] [] (sm_hp r8.2) [] rfl (sm_on) ?_
      refine w_wk [true, false, true, true, true] ?_
      exact tX11_round_49 sm_fu r8.1 (0 : Int32) (0 : Int32) r8.2 r hf
    · replace hf := sm_ift hc hf
      refine w_blk bX11_round_29 [.ref 0, .int r2, .retAddr 0, .retAddr 0, .retAddr 0] [.int (-2 : Int32)] (sm_hp m) [] rfl (sm_on) ?_
      obtain rfl := Option.some.inj hf
      exact w_reti dX11_round_31 rfl rfl
