set_option maxRecDepth 10000 in
theorem tX8_append_14 {l : Launch} {al : Bool} : ∀ (n : Nat) (v1 : Int32) (v2 : Int32) (m : sm_S) (r : Int32 × sm_S), fX8_append_14 n v1 v2 m = some r → sm_W l mX8_append 1 al (some (.int r.1), sm_hp r.2) 14 [.ref 1, .int v1, .int v2] [] (sm_hp m) := by
  intro n
  induction n with
  | zero =>
    intro v1 v2 m r hf
    unfold fX8_append_14 at hf
    cases hf
  | succ n ih =>
    intro v1 v2 m r hf
    unfold fX8_append_14 at hf
    refine w_blk bX8_append_14 [.ref 1, .int v1, .int v2] [.int v2] (sm_hp m) [] rfl (sm_on) ?_
    refine w_if_lt (tgt := 51) dX8_append_15 rfl (fun hc => ?_) (fun hc => ?_)
    · replace hf := sm_ift hc hf
      refine w_blk bX8_append_51 [.ref 1, .int v1, .int v2] [.int (1 : Int32)] (sm_hp m) [] rfl (sm_on) ?_
      obtain rfl := Option.some.inj hf
      exact w_reti dX8_append_52 rfl sm_nb1
    · replace hf := sm_iff hc hf
      replace hf := sm_ck hf
      obtain ⟨q1, hf⟩ := hf
      refine w_blk bX8_append_18 [.ref 1, .int v1, .int (v2 + (-8 : Int32))] [] (sm_hp (sm_w1 (sm_w1 m 2 (m.1 1 1).toNatClampNeg (vp_nar .char ((((v1 >>> (v2 &&& 31)) &&& (255 : Int32))).toUInt32 % 65536).toInt32)) 1 1 ((m.1 1 1) + (1 : Int32)))) [((m.1 1 1), 80)] rfl (sm_oc q1 (sm_on)) ?_
      refine w_goto (tgt := 14) dX8_append_48 rfl ?_
      exact ih v1 (v2 + (-8 : Int32)) (sm_w1 (sm_w1 m 2 (m.1 1 1).toNatClampNeg (vp_nar .char ((((v1 >>> (v2 &&& 31)) &&& (255 : Int32))).toUInt32 % 65536).toInt32)) 1 1 ((m.1 1 1) + (1 : Int32))) r hf
set_option maxRecDepth 10000 in
theorem tX8_append {l : Launch} {al : Bool} (x1 : Int32) (m : sm_S) (r : Int32 × sm_S) (hf : fX8_append x1 m = some r) : sm_Rt l mX8_append 1 0 0 al al [.ref 1, .int x1] (sm_hp m) (some (.int r.1), sm_hp r.2) := by
  refine sm_Rt.ofW (L := [.ref 1, .int x1, .retAddr 0]) (by decide) (Nat.le_of_ble_eq_true rfl) rfl ?_
  unfold fX8_append at hf
  refine w_blk bX8_append_0 [.ref 1, .int x1, .retAddr 0] [.int (76 : Int32), .int (m.1 1 1)] (sm_hp m) [] rfl (sm_on) ?_
  refine w_icmp_le (tgt := 11) dX8_append_6 rfl (fun hc => ?_) (fun hc => ?_)
  · replace hf := sm_ift hc hf
    refine w_blk bX8_append_11 [.ref 1, .int x1, .int (24 : Int32)] [] (sm_hp m) [] rfl (sm_on) ?_
    exact tX8_append_14 sm_fu x1 (24 : Int32) m r hf
  · replace hf := sm_iff hc hf
    refine w_blk bX8_append_9 [.ref 1, .int x1, .retAddr 0] [.int (0 : Int32)] (sm_hp m) [] rfl (sm_on) ?_
    obtain rfl := Option.some.inj hf
    exact w_reti dX8_append_10 rfl sm_nb0
set_option maxRecDepth 10000 in
theorem tX11_sign {l : Launch} {al : Bool} (x1 : Int32) (m : sm_S) (r : Int32 × sm_S) (hf : fX11_sign x1 m = some r) : sm_Rt l mX11_sign 2 0 0 al al [.ref 0, .int x1] (sm_hp m) (some (.int r.1), sm_hp r.2) := by
  refine sm_Rt.ofW (L := [.ref 0, .int x1]) (by decide) (Nat.le_of_ble_eq_true rfl) rfl ?_
  unfold fX11_sign at hf
  refine w_blk bX11_sign_0 [.ref 0, .int x1] [.int x1, .ref 1] (sm_hp m) [] rfl (sm_on) ?_
  replace hf := sm_bd hf
  obtain ⟨r2, q1, hf⟩ := hf
  refine w_callV [.int x1] [] (tX8_append x1 m r2 q1) (cvX11_90 rfl) dX11_sign_5 rfl rfl (by decide) (by decide) rfl (Nat.le_of_ble_eq_true rfl) ?_
  show sm_W _ _ _ _ _ 8 [.ref 0, .int x1] [.int r2.1] (sm_hp r2.2)
  refine w_if_eq (tgt := 21) dX11_sign_8 rfl (fun hc => ?_) (fun hc => ?_)
  · replace hf := sm_ift hc hf
    refine w_blk bX11_sign_21 [.ref 0, .int x1] [.int (-1 : Int32)] (sm_hp r2.2) [] rfl (sm_on) ?_
    obtain rfl := Option.some.inj hf
    exact w_reti dX11_sign_22 rfl rfl
  · replace hf := sm_iff hc hf
    refine w_blk bX11_sign_11 [.ref 0, .int x1] [.int (r2.2.1 1 1)] (sm_hp r2.2) [] rfl (sm_on) ?_
    refine w_goto (tgt := 22) dX11_sign_18 rfl ?_
    obtain rfl := Option.some.inj hf
    exact w_reti dX11_sign_22 rfl rfl
set_option maxRecDepth 10000 in
theorem tX11_end {l : Launch} {al : Bool} (x1 : Int32) (m : sm_S) (r : Int32 × sm_S) (hf : fX11_end x1 m = some r) : sm_Rt l mX11_end 1 0 0 al al [.ref 0, .int x1] (sm_hp m) (some (.int r.1), sm_hp r.2) := by
  refine sm_Rt.ofW (L := [.ref 0, .int x1]) (by decide) (Nat.le_of_ble_eq_true rfl) rfl ?_
  unfold fX11_end at hf
  refine w_blk bX11_end_0 [.ref 0, .int x1] [.int x1] (sm_hp m) [] rfl (sm_on) ?_
  refine w_if_lt (tgt := 15) dX11_end_1 rfl (fun hc => ?_) (fun hc => ?_)
  · replace hf := sm_ift hc hf
    refine w_blk bX11_end_15 [.ref 0, .int x1] [.int (0 : Int32)] (sm_hp m) [] rfl (sm_on) ?_
    obtain rfl := Option.some.inj hf
    exact w_reti dX11_end_16 rfl sm_nb0
  · replace hf := sm_iff hc hf
    refine w_blk bX11_end_4 [.ref 0, .int x1] [.int (m.1 1 1), .int x1] (sm_hp m) [] rfl (sm_on) ?_
    refine w_icmp_le (tgt := 17) dX11_end_12 rfl (fun hc => ?_) (fun hc => ?_)
    · replace hf := sm_ift hc hf
      refine w_blk bX11_end_17 [.ref 0, .int x1] [.int (1 : Int32)] (sm_hp (sm_w1 m 1 1 x1)) [] rfl (sm_on) ?_
      obtain rfl := Option.some.inj hf
      exact w_reti dX11_end_26 rfl sm_nb1
    · replace hf := sm_iff hc hf
      refine w_blk bX11_end_15 [.ref 0, .int x1] [.int (0 : Int32)] (sm_hp m) [] rfl (sm_on) ?_
      obtain rfl := Option.some.inj hf
      exact w_reti dX11_end_16 rfl sm_nb0
set_option maxRecDepth 10000 in
theorem tX8_signAt {l : Launch} {al : Bool} (m : sm_S) (r : Int32) (hf : fX8_signAt m = some r) : sm_Rt l mX8_signAt 1 0 0 al al [.ref 1] (sm_hp m) (some (.int r), sm_hp m) := by
  refine sm_Rt.ofW (L := [.ref 1]) (by decide) (Nat.le_of_ble_eq_true rfl) rfl ?_
  unfold fX8_signAt at hf
  refine w_blk bX8_signAt_0 [.ref 1] [.int (m.1 1 3), .int (m.1 1 2)] (sm_hp m) [] rfl (sm_on) ?_
  refine w_icmp_ge (tgt := 32) dX8_signAt_8 rfl (fun hc => ?_) (fun hc => ?_)
  · replace hf := sm_ift hc hf
    refine w_blk bX8_signAt_32 [.ref 1] [.int (-1 : Int32)] (sm_hp m) [] rfl (sm_on) ?_
    obtain rfl := Option.some.inj hf
    exact w_reti dX8_signAt_33 rfl rfl
  · replace hf := sm_iff hc hf
    refine w_blk bX8_signAt_11 [.ref 1] [.int (80 : Int32), .int (m.1 1 2)] (sm_hp m) [] rfl (sm_on) ?_
    refine w_icmp_ge (tgt := 32) dX8_signAt_17 rfl (fun hc => ?_) (fun hc => ?_)
    · replace hf := sm_ift hc hf
      refine w_blk bX8_signAt_32 [.ref 1] [.int (-1 : Int32)] (sm_hp m) [] rfl (sm_on) ?_
      obtain rfl := Option.some.inj hf
      exact w_reti dX8_signAt_33 rfl rfl
    · replace hf := sm_iff hc hf
      replace hf := sm_ck hf
      obtain ⟨q1, hf⟩ := hf
      refine w_blk bX8_signAt_20 [.ref 1] [.int (m.1 2 (m.1 1 2).toNatClampNeg)] (sm_hp m) [((m.1 1 2), 80)] rfl (sm_oc q1 (sm_on)) ?_
      refine w_goto (tgt := 33) dX8_signAt_29 rfl ?_
      obtain rfl := Option.some.inj hf
      exact w_reti dX8_signAt_33 rfl rfl
set_option maxRecDepth 10000 in
theorem tX8_cornerLetter {l : Launch} {al : Bool} (x1 : Int32) (m : sm_S) (r : Int32 × sm_S) (hf : fX8_cornerLetter x1 m = some r) : sm_Rt l mX8_cornerLetter 2 0 0 al al [.ref 1, .int x1] (sm_hp m) (some (.int r.1), sm_hp r.2) := by
  refine sm_Rt.ofW (L := [.ref 1, .int x1, .retAddr 0]) (by decide) (Nat.le_of_ble_eq_true rfl) rfl ?_
  unfold fX8_cornerLetter at hf
  refine w_blk bX8_cornerLetter_0 [.ref 1, .int x1, .retAddr 0] [.ref 1] (sm_hp m) [] rfl (sm_on) ?_
  replace hf := sm_bd hf
  obtain ⟨r2, q1, hf⟩ := hf
  refine w_callV [] [] (tX8_signAt m r2 q1) (cvX8_49 rfl) dX8_cornerLetter_1 rfl rfl (by decide) (by decide) rfl (Nat.le_of_ble_eq_true rfl) ?_
  show sm_W _ _ _ _ _ 4 [.ref 1, .int x1, .retAddr 0] [.int r2] (sm_hp m)
  refine w_blk bX8_cornerLetter_4 [.ref 1, .int x1, .int (r2 - (97 : Int32))] [.int (r2 - (97 : Int32))] (sm_hp m) [] rfl (sm_on) ?_
  refine w_if_lt (tgt := 25) dX8_cornerLetter_9 rfl (fun hc => ?_) (fun hc => ?_)
  · replace hf := sm_ift hc hf
    refine w_blk bX8_cornerLetter_25 [.ref 1, .int x1, .int (r2 - (97 : Int32))] [.int (-1 : Int32)] (sm_hp m) [] rfl (sm_on) ?_
    obtain rfl := Option.some.inj hf
    exact w_reti dX8_cornerLetter_26 rfl rfl
  · replace hf := sm_iff hc hf
    refine w_blk bX8_cornerLetter_12 [.ref 1, .int x1, .int (r2 - (97 : Int32))] [.int (m.1 1 4), .int (r2 - (97 : Int32))] (sm_hp m) [] rfl (sm_on) ?_
    refine w_icmp_ge (tgt := 25) dX8_cornerLetter_17 rfl (fun hc => ?_) (fun hc => ?_)
    · replace hf := sm_ift hc hf
      refine w_blk bX8_cornerLetter_25 [.ref 1, .int x1, .int (r2 - (97 : Int32))] [.int (-1 : Int32)] (sm_hp m) [] rfl (sm_on) ?_
      obtain rfl := Option.some.inj hf
      exact w_reti dX8_cornerLetter_26 rfl rfl
    · replace hf := sm_iff hc hf
      refine w_blk bX8_cornerLetter_20 [.ref 1, .int x1, .int (r2 - (97 : Int32))] [.int x1, .int (r2 - (97 : Int32))] (sm_hp m) [] rfl (sm_on) ?_
      refine w_icmp_ne (tgt := 27) dX8_cornerLetter_22 rfl (fun hc => ?_) (fun hc => ?_)
      · replace hf := sm_iff hc hf
        refine w_blk bX8_cornerLetter_27 [.ref 1, .int x1, .int (r2 - (97 : Int32))] [.int (r2 - (97 : Int32))] (sm_hp (sm_w1 m 1 2 ((m.1 1 2) + (1 : Int32)))) [] rfl (sm_on) ?_
        obtain rfl := Option.some.inj hf
        exact w_reti dX8_cornerLetter_38 rfl rfl
      · replace hf := sm_ift hc hf
        refine w_blk bX8_cornerLetter_25 [.ref 1, .int x1, .int (r2 - (97 : Int32))] [.int (-1 : Int32)] (sm_hp m) [] rfl (sm_on) ?_
        obtain rfl := Option.some.inj hf
        exact w_reti dX8_cornerLetter_26 rfl rfl
set_option maxRecDepth 10000 in
theorem tX8_digit {l : Launch} {al : Bool} (x1 : Int32) (m : sm_S) (r : Int32 × sm_S) (hf : fX8_digit x1 m = some r) : sm_Rt l mX8_digit 2 0 0 al al [.ref 1, .int x1] (sm_hp m) (some (.int r.1), sm_hp r.2) := by
  refine sm_Rt.ofW (L := [.ref 1, .int x1, .retAddr 0]) (by decide) (Nat.le_of_ble_eq_true rfl) rfl ?_
  unfold fX8_digit at hf
  refine w_blk bX8_digit_0 [.ref 1, .int x1, .retAddr 0] [.ref 1] (sm_hp m) [] rfl (sm_on) ?_
  replace hf := sm_bd hf
  obtain ⟨r2, q1, hf⟩ := hf
  refine w_callV [] [] (tX8_signAt m r2 q1) (cvX8_49 rfl) dX8_digit_1 rfl rfl (by decide) (by decide) rfl (Nat.le_of_ble_eq_true rfl) ?_
  show sm_W _ _ _ _ _ 4 [.ref 1, .int x1, .retAddr 0] [.int r2] (sm_hp m)
  refine w_blk bX8_digit_4 [.ref 1, .int x1, .int (r2 - (48 : Int32))] [.int (r2 - (48 : Int32))] (sm_hp m) [] rfl (sm_on) ?_
  refine w_if_lt (tgt := 17) dX8_digit_9 rfl (fun hc => ?_) (fun hc => ?_)
  · replace hf := sm_ift hc hf
    refine w_blk bX8_digit_17 [.ref 1, .int x1, .int (r2 - (48 : Int32))] [.int (-1 : Int32)] (sm_hp m) [] rfl (sm_on) ?_
    obtain rfl := Option.some.inj hf
    exact w_reti dX8_digit_18 rfl rfl
  · replace hf := sm_iff hc hf
    refine w_blk bX8_digit_12 [.ref 1, .int x1, .int (r2 - (48 : Int32))] [.int x1, .int (r2 - (48 : Int32))] (sm_hp m) [] rfl (sm_on) ?_
    refine w_icmp_le (tgt := 19) dX8_digit_14 rfl (fun hc => ?_) (fun hc => ?_)
    · replace hf := sm_ift hc hf
      refine w_blk bX8_digit_19 [.ref 1, .int x1, .int (r2 - (48 : Int32))] [.int (r2 - (48 : Int32))] (sm_hp (sm_w1 m 1 2 ((m.1 1 2) + (1 : Int32)))) [] rfl (sm_on) ?_
      obtain rfl := Option.some.inj hf
      exact w_reti dX8_digit_30 rfl rfl
    · replace hf := sm_iff hc hf
      refine w_blk bX8_digit_17 [.ref 1, .int x1, .int (r2 - (48 : Int32))] [.int (-1 : Int32)] (sm_hp m) [] rfl (sm_on) ?_
      obtain rfl := Option.some.inj hf
      exact w_reti dX8_digit_18 rfl rfl
set_option maxRecDepth 10000 in
theorem tX8_longDigits {l : Launch} {al : Bool} (m : sm_S) (r : Int32 × sm_S) (hf : fX8_longDigits m = some r) : sm_Rt l mX8_longDigits 3 0 0 al al [.ref 1] (sm_hp m) (some (.int r.1), sm_hp r.2) := by
  refine sm_Rt.ofW (L := [.ref 1, .retAddr 0, .retAddr 0]) (by decide) (Nat.le_of_ble_eq_true rfl) rfl ?_
  unfold fX8_longDigits at hf
  refine w_blk bX8_longDigits_0 [.ref 1, .retAddr 0, .retAddr 0] [.int (9 : Int32), .ref 1] (sm_hp m) [] rfl (sm_on) ?_
  replace hf := sm_bd hf
  obtain ⟨r2, q1, hf⟩ := hf
  refine w_callV [.int (9 : Int32)] [] (tX8_digit (9 : Int32) m r2 q1) (cvX8_59 rfl) dX8_longDigits_3 rfl rfl (by decide) (by decide) rfl (Nat.le_of_ble_eq_true rfl) ?_
  show sm_W _ _ _ _ _ 6 [.ref 1, .retAddr 0, .retAddr 0] [.int r2.1] (sm_hp r2.2)
  refine w_blk bX8_longDigits_6 [.ref 1, .int r2.1, .retAddr 0] [.int r2.1] (sm_hp r2.2) [] rfl (sm_on) ?_
  refine w_if_ge (tgt := 13) dX8_longDigits_8 rfl (fun hc => ?_) (fun hc => ?_)
  · replace hf := sm_ift hc hf
    refine w_blk bX8_longDigits_13 [.ref 1, .int r2.1, .retAddr 0] [.int (9 : Int32), .ref 1] (sm_hp r2.2) [] rfl (sm_on) ?_
    replace hf := sm_bd hf
    obtain ⟨r4, q3, hf⟩ := hf
    refine w_callV [.int (9 : Int32)] [] (tX8_digit (9 : Int32) r2.2 r4 q3) (cvX8_59 rfl) dX8_longDigits_16 rfl rfl (by decide) (by decide) rfl (Nat.le_of_ble_eq_true rfl) ?_
    show sm_W _ _ _ _ _ 19 [.ref 1, .int r2.1, .retAddr 0] [.int r4.1] (sm_hp r4.2)
    refine w_blk bX8_longDigits_19 [.ref 1, .int r2.1, .int r4.1] [.int r4.1] (sm_hp r4.2) [] rfl (sm_on) ?_
    refine w_if_lt (tgt := 31) dX8_longDigits_21 rfl (fun hc => ?_) (fun hc => ?_)
    · replace hf := sm_ift hc hf
      refine w_blk bX8_longDigits_31 [.ref 1, .int r2.1, .int r4.1] [.int (1 : Int32), .int r2.1] (sm_hp r4.2) [] rfl (sm_on) ?_
      refine w_icmp_lt (tgt := 42) dX8_longDigits_33 rfl (fun hc => ?_) (fun hc => ?_)
      · replace hf := sm_ift hc hf
        refine w_blk bX8_longDigits_42 [.ref 1, .int r2.1, .int r4.1] [.int (-1 : Int32)] (sm_hp (sm_w1 r4.2 1 2 ((r4.2.1 1 2) - (1 : Int32)))) [] rfl (sm_on) ?_
        obtain rfl := Option.some.inj hf
        exact w_reti dX8_longDigits_53 rfl rfl
      · replace hf := sm_iff hc hf
        refine w_blk bX8_longDigits_36 [.ref 1, .int r2.1, .int r4.1] [.int (20 : Int32), .int r2.1] (sm_hp r4.2) [] rfl (sm_on) ?_
        refine w_icmp_le (tgt := 54) dX8_longDigits_39 rfl (fun hc => ?_) (fun hc => ?_)
        · replace hf := sm_ift hc hf
          refine w_blk bX8_longDigits_54 [.ref 1, .int r2.1, .int r4.1] [.int r2.1] (sm_hp r4.2) [] rfl (sm_on) ?_
          obtain rfl := Option.some.inj hf
          exact w_reti dX8_longDigits_55 rfl rfl
        · replace hf := sm_iff hc hf
          refine w_blk bX8_longDigits_42 [.ref 1, .int r2.1, .int r4.1] [.int (-1 : Int32)] (sm_hp (sm_w1 r4.2 1 2 ((r4.2.1 1 2) - (1 : Int32)))) [] rfl (sm_on) ?_
          obtain rfl := Option.some.inj hf
          exact w_reti dX8_longDigits_53 rfl rfl
    · replace hf := sm_iff hc hf
      refine w_blk bX8_longDigits_24 [.ref 1, .int (((10 : Int32) * r2.1) + r4.1), .int r4.1] [] (sm_hp r4.2) [] rfl (sm_on) ?_
      refine w_blk bX8_longDigits_31 [.ref 1, .int (((10 : Int32) * r2.1) + r4.1), .int r4.1] [.int (1 : Int32), .int (((10 : Int32) * r2.1) + r4.1)] (sm_hp r4.2) [] rfl (sm_on) ?_
      refine w_icmp_lt (tgt := 42) dX8_longDigits_33 rfl (fun hc => ?_) (fun hc => ?_)
      · replace hf := sm_ift hc hf
        refine w_blk bX8_longDigits_42 [.ref 1, .int (((10 : Int32) * r2.1) + r4.1), .int r4.1] [.int (-1 : Int32)] (sm_hp (sm_w1 r4.2 1 2 ((r4.2.1 1 2) - (1 : Int32)))) [] rfl (sm_on) ?_
        obtain rfl := Option.some.inj hf
        exact w_reti dX8_longDigits_53 rfl rfl
      · replace hf := sm_iff hc hf
        refine w_blk bX8_longDigits_36 [.ref 1, .int (((10 : Int32) * r2.1) + r4.1), .int r4.1] [.int (20 : Int32), .int (((10 : Int32) * r2.1) + r4.1)] (sm_hp r4.2) [] rfl (sm_on) ?_
        refine w_icmp_le (tgt := 54) dX8_longDigits_39 rfl (fun hc => ?_) (fun hc => ?_)
        · replace hf := sm_ift hc hf
          refine w_blk bX8_longDigits_54 [.ref 1, .int (((10 : Int32) * r2.1) + r4.1), .int r4.1] [.int (((10 : Int32) * r2.1) + r4.1)] (sm_hp r4.2) [] rfl (sm_on) ?_
          obtain rfl := Option.some.inj hf
          exact w_reti dX8_longDigits_55 rfl rfl
        · replace hf := sm_iff hc hf
          refine w_blk bX8_longDigits_42 [.ref 1, .int (((10 : Int32) * r2.1) + r4.1), .int r4.1] [.int (-1 : Int32)] (sm_hp (sm_w1 r4.2 1 2 ((r4.2.1 1 2) - (1 : Int32)))) [] rfl (sm_on) ?_
          obtain rfl := Option.some.inj hf
          exact w_reti dX8_longDigits_53 rfl rfl
  · replace hf := sm_iff hc hf
    refine w_blk bX8_longDigits_11 [.ref 1, .int r2.1, .retAddr 0] [.int (-1 : Int32)] (sm_hp r2.2) [] rfl (sm_on) ?_
    obtain rfl := Option.some.inj hf
    exact w_reti dX8_longDigits_12 rfl rfl
set_option maxRecDepth 10000 in
theorem tX8_skip {l : Launch} {al : Bool} (x1 : Int32) (m : sm_S) (r : Int32 × sm_S) (hf : fX8_skip x1 m = some r) : sm_Rt l mX8_skip 2 0 0 al al [.ref 1, .int x1] (sm_hp m) (some (.int r.1), sm_hp r.2) := by
  refine sm_Rt.ofW (L := [.ref 1, .int x1]) (by decide) (Nat.le_of_ble_eq_true rfl) rfl ?_
  unfold fX8_skip at hf
  refine w_blk bX8_skip_0 [.ref 1, .int x1] [.ref 1] (sm_hp m) [] rfl (sm_on) ?_
  replace hf := sm_bd hf
  obtain ⟨r2, q1, hf⟩ := hf
  refine w_callV [] [] (tX8_signAt m r2 q1) (cvX8_49 rfl) dX8_skip_1 rfl rfl (by decide) (by decide) rfl (Nat.le_of_ble_eq_true rfl) ?_
  show sm_W _ _ _ _ _ 4 [.ref 1, .int x1] [.int r2] (sm_hp m)
  refine w_blk bX8_skip_4 [.ref 1, .int x1] [.int x1, .int r2] (sm_hp m) [] rfl (sm_on) ?_
  refine w_icmp_eq (tgt := 10) dX8_skip_5 rfl (fun hc => ?_) (fun hc => ?_)
  · replace hf := sm_ift hc hf
    refine w_blk bX8_skip_10 [.ref 1, .int x1] [.int (1 : Int32)] (sm_hp (sm_w1 m 1 2 ((m.1 1 2) + (1 : Int32)))) [] rfl (sm_on) ?_
    obtain rfl := Option.some.inj hf
    exact w_reti dX8_skip_21 rfl sm_nb1
  · replace hf := sm_iff hc hf
    refine w_blk bX8_skip_8 [.ref 1, .int x1] [.int (0 : Int32)] (sm_hp m) [] rfl (sm_on) ?_
    obtain rfl := Option.some.inj hf
    exact w_reti dX8_skip_9 rfl sm_nb0
set_option maxRecDepth 10000 in
theorem tX8_marked {l : Launch} {al : Bool} (x1 : Int32) (x2 : Int32) (m : sm_S) (r : Int32 × sm_S) (hf : fX8_marked x1 x2 m = some r) : sm_Rt l mX8_marked 3 0 0 al al [.ref 1, .int x1, .int x2] (sm_hp m) (some (.int r.1), sm_hp r.2) := by
  refine sm_Rt.ofW (L := [.ref 1, .int x1, .int x2]) (by decide) (Nat.le_of_ble_eq_true rfl) rfl ?_
  unfold fX8_marked at hf
  refine w_blk bX8_marked_0 [.ref 1, .int x1, .int x2] [.int x1, .ref 1] (sm_hp m) [] rfl (sm_on) ?_
  replace hf := sm_bd hf
  obtain ⟨r2, q1, hf⟩ := hf
  refine w_callV [.int x1] [] (tX8_skip x1 m r2 q1) (cvX8_45 rfl) dX8_marked_2 rfl rfl (by decide) (by decide) rfl (Nat.le_of_ble_eq_true rfl) ?_
  show sm_W _ _ _ _ _ 5 [.ref 1, .int x1, .int x2] [.int r2.1] (sm_hp r2.2)
  refine w_if_eq (tgt := 17) dX8_marked_5 rfl (fun hc => ?_) (fun hc => ?_)
  · replace hf := sm_ift hc hf
    refine w_blk bX8_marked_17 [.ref 1, .int x1, .int x2] [.int x2] (sm_hp r2.2) [] rfl (sm_on) ?_
    obtain rfl := Option.some.inj hf
    exact w_reti dX8_marked_18 rfl rfl
  · replace hf := sm_iff hc hf
    refine w_blk bX8_marked_8 [.ref 1, .int x1, .int x2] [.int (9 : Int32), .ref 1] (sm_hp r2.2) [] rfl (sm_on) ?_
    replace hf := sm_bd hf
    obtain ⟨r4, q3, hf⟩ := hf
    refine w_callV [.int (9 : Int32)] [] (tX8_digit (9 : Int32) r2.2 r4 q3) (cvX8_59 rfl) dX8_marked_11 rfl rfl (by decide) (by decide) rfl (Nat.le_of_ble_eq_true rfl) ?_
    show sm_W _ _ _ _ _ 14 [.ref 1, .int x1, .int x2] [.int r4.1] (sm_hp r4.2)
    refine w_goto (tgt := 18) dX8_marked_14 rfl ?_
    obtain rfl := Option.some.inj hf
    exact w_reti dX8_marked_18 rfl rfl
set_option maxRecDepth 10000 in
theorem tX8_readHedge {l : Launch} {al : Bool} (m : sm_S) (r : Int32 × sm_S) (hf : fX8_readHedge m = some r) : sm_Rt l mX8_readHedge 4 0 0 al al [.ref 1, .ref 3] (sm_hp m) (some (.int r.1), sm_hp r.2) := by
  refine sm_Rt.ofW (L := [.ref 1, .ref 3, .retAddr 0, .retAddr 0, .retAddr 0, .retAddr 0, .retAddr 0, .retAddr 0, .retAddr 0]) (by decide) (Nat.le_of_ble_eq_true rfl) rfl ?_
  unfold fX8_readHedge at hf
  refine w_blk bX8_readHedge_0 [.ref 1, .ref 3, .retAddr 0, .retAddr 0, .retAddr 0, .retAddr 0, .retAddr 0, .retAddr 0, .retAddr 0] [.int (14 : Int32), .int (m.1 1 5)] (sm_hp m) [] rfl (sm_on) ?_
  refine w_icmp_lt (tgt := 11) dX8_readHedge_6 rfl (fun hc => ?_) (fun hc => ?_)
  · replace hf := sm_ift hc hf
    refine w_blk bX8_readHedge_11 [.ref 1, .ref 3, .retAddr 0, .retAddr 0, .retAddr 0, .retAddr 0, .retAddr 0, .retAddr 0, .retAddr 0] [.int (-1 : Int32), .ref 1] (sm_hp m) [] rfl (sm_on) ?_
    replace hf := sm_bd hf
    obtain ⟨r2, q1, hf⟩ := hf
    refine w_callV [.int (-1 : Int32)] [] (tX8_cornerLetter (-1 : Int32) m r2 q1) (cvX8_70 rfl) dX8_readHedge_13 rfl rfl (by decide) (by decide) rfl (Nat.le_of_ble_eq_true rfl) ?_
    show sm_W _ _ _ _ _ 16 [.ref 1, .ref 3, .retAddr 0, .retAddr 0, .retAddr 0, .retAddr 0, .retAddr 0, .retAddr 0, .retAddr 0] [.int r2.1] (sm_hp r2.2)
    refine w_blk bX8_readHedge_16 [.ref 1, .ref 3, .int r2.1, .retAddr 0, .retAddr 0, .retAddr 0, .retAddr 0, .retAddr 0, .retAddr 0] [.int r2.1] (sm_hp r2.2) [] rfl (sm_on) ?_
    refine w_if_ge (tgt := 25) dX8_readHedge_18 rfl (fun hc => ?_) (fun hc => ?_)
    · replace hf := sm_ift hc hf
      refine w_blk bX8_readHedge_25 [.ref 1, .ref 3, .int r2.1, .retAddr 0, .retAddr 0, .retAddr 0, .retAddr 0, .retAddr 0, .retAddr 0] [.int r2.1, .ref 1] (sm_hp r2.2) [] rfl (sm_on) ?_
      replace hf := sm_bd hf
      obtain ⟨r4, q3, hf⟩ := hf
      refine w_callV [.int r2.1] [] (tX8_cornerLetter r2.1 r2.2 r4 q3) (cvX8_70 rfl) dX8_readHedge_27 rfl rfl (by decide) (by decide) rfl (Nat.le_of_ble_eq_true rfl) ?_
      show sm_W _ _ _ _ _ 30 [.ref 1, .ref 3, .int r2.1, .retAddr 0, .retAddr 0, .retAddr 0, .retAddr 0, .retAddr 0, .retAddr 0] [.int r4.1] (sm_hp r4.2)
      refine w_blk bX8_readHedge_30 [.ref 1, .ref 3, .int r2.1, .int r4.1, .retAddr 0, .retAddr 0, .retAddr 0, .retAddr 0, .retAddr 0] [.int r4.1] (sm_hp r4.2) [] rfl (sm_on) ?_
      refine w_if_ge (tgt := 39) dX8_readHedge_32 rfl (fun hc => ?_) (fun hc => ?_)
      · replace hf := sm_ift hc hf
        refine w_blk bX8_readHedge_39 [.ref 1, .ref 3, .int r2.1, .int r4.1, .retAddr 0, .retAddr 0, .retAddr 0, .retAddr 0, .retAddr 0] [.ref 1] (sm_hp r4.2) [] rfl (sm_on) ?_
        replace hf := sm_bd hf
        obtain ⟨r6, q5, hf⟩ := hf
        refine w_callV [] [] (tX8_longDigits r4.2 r6 q5) (cvX8_73 rfl) dX8_readHedge_40 rfl rfl (by decide) (by decide) rfl (Nat.le_of_ble_eq_true rfl) ?_
        show sm_W _ _ _ _ _ 43 [.ref 1, .ref 3, .int r2.1, .int r4.1, .retAddr 0, .retAddr 0, .retAddr 0, .retAddr 0, .retAddr 0] [.int r6.1] (sm_hp r6.2)
        refine w_blk bX8_readHedge_43 [.ref 1, .ref 3, .int r2.1, .int r4.1, .int r6.1, .retAddr 0, .retAddr 0, .retAddr 0, .retAddr 0] [.int r6.1] (sm_hp r6.2) [] rfl (sm_on) ?_
        refine w_if_lt (tgt := 59) dX8_readHedge_47 rfl (fun hc => ?_) (fun hc => ?_)
        · replace hf := sm_ift hc hf
          refine w_blk bX8_readHedge_59 [.ref 1, .ref 3, .int r2.1, .int r4.1, .int r6.1, .retAddr 0, .retAddr 0, .retAddr 0, .retAddr 0] [.int (0 : Int32)] (sm_hp r6.2) [] rfl (sm_on) ?_
          obtain rfl := Option.some.inj hf
          exact w_reti dX8_readHedge_60 rfl sm_nb0
        · replace hf := sm_iff hc hf
          refine w_blk bX8_readHedge_50 [.ref 1, .ref 3, .int r2.1, .int r4.1, .int r6.1, .retAddr 0, .retAddr 0, .retAddr 0, .retAddr 0] [.int (58 : Int32), .ref 1] (sm_hp r6.2) [] rfl (sm_on) ?_
          replace hf := sm_bd hf
          obtain ⟨r8, q7, hf⟩ := hf
          refine w_callV [.int (58 : Int32)] [] (tX8_skip (58 : Int32) r6.2 r8 q7) (cvX8_45 rfl) dX8_readHedge_53 rfl rfl (by decide) (by decide) rfl (Nat.le_of_ble_eq_true rfl) ?_
          show sm_W _ _ _ _ _ 56 [.ref 1, .ref 3, .int r2.1, .int r4.1, .int r6.1, .retAddr 0, .retAddr 0, .retAddr 0, .retAddr 0] [.int r8.1] (sm_hp r8.2)
          refine w_if_ne (tgt := 61) dX8_readHedge_56 rfl (fun hc => ?_) (fun hc => ?_)
          · replace hf := sm_iff hc hf
            refine w_blk bX8_readHedge_61 [.ref 1, .ref 3, .int r2.1, .int r4.1, .int r6.1, .retAddr 0, .retAddr 0, .retAddr 0, .retAddr 0] [.int (5 : Int32), .ref 1] (sm_hp r8.2) [] rfl (sm_on) ?_
            replace hf := sm_bd hf
            obtain ⟨r10, q9, hf⟩ := hf
            refine w_callV [.int (5 : Int32)] [] (tX8_digit (5 : Int32) r8.2 r10 q9) (cvX8_59 rfl) dX8_readHedge_63 rfl rfl (by decide) (by decide) rfl (Nat.le_of_ble_eq_true rfl) ?_
            show sm_W _ _ _ _ _ 66 [.ref 1, .ref 3, .int r2.1, .int r4.1, .int r6.1, .retAddr 0, .retAddr 0, .retAddr 0, .retAddr 0] [.int r10.1] (sm_hp r10.2)
            refine w_blk bX8_readHedge_66 [.ref 1, .ref 3, .int r2.1, .int r4.1, .int r6.1, .int r10.1, .retAddr 0, .retAddr 0, .retAddr 0] [.int r10.1] (sm_hp r10.2) [] rfl (sm_on) ?_
            refine w_if_ge (tgt := 77) dX8_readHedge_70 rfl (fun hc => ?_) (fun hc => ?_)
            · replace hf := sm_ift hc hf
              refine w_blk bX8_readHedge_77 [.ref 1, .ref 3, .int r2.1, .int r4.1, .int r6.1, .int r10.1, .retAddr 0, .retAddr 0, .retAddr 0] [.int (5 : Int32), .ref 1] (sm_hp r10.2) [] rfl (sm_on) ?_
              replace hf := sm_bd hf
              obtain ⟨r12, q11, hf⟩ := hf
              refine w_callV [.int (5 : Int32)] [] (tX8_digit (5 : Int32) r10.2 r12 q11) (cvX8_59 rfl) dX8_readHedge_79 rfl rfl (by decide) (by decide) rfl (Nat.le_of_ble_eq_true rfl) ?_
              show sm_W _ _ _ _ _ 82 [.ref 1, .ref 3, .int r2.1, .int r4.1, .int r6.1, .int r10.1, .retAddr 0, .retAddr 0, .retAddr 0] [.int r12.1] (sm_hp r12.2)
              refine w_blk bX8_readHedge_82 [.ref 1, .ref 3, .int r2.1, .int r4.1, .int r6.1, .int r10.1, .int r12.1, .retAddr 0, .retAddr 0] [.int r12.1] (sm_hp r12.2) [] rfl (sm_on) ?_
              refine w_if_ge (tgt := 93) dX8_readHedge_86 rfl (fun hc => ?_) (fun hc => ?_)
              · replace hf := sm_ift hc hf
                refine w_blk bX8_readHedge_93 [.ref 1, .ref 3, .int r2.1, .int r4.1, .int r6.1, .int r10.1, .int r12.1, .retAddr 0, .retAddr 0] [.int (1 : Int32), .int (119 : Int32), .ref 1] (sm_hp r12.2) [] rfl (sm_on) ?_
                replace hf := sm_bd hf
                obtain ⟨r14, q13, hf⟩ := hf
                refine w_callV [.int (119 : Int32), .int (1 : Int32)] [] (tX8_marked (119 : Int32) (1 : Int32) r12.2 r14 q13) (cvX8_76 rfl) dX8_readHedge_97 rfl rfl (by decide) (by decide) rfl (Nat.le_of_ble_eq_true rfl) ?_
                show sm_W _ _ _ _ _ 100 [.ref 1, .ref 3, .int r2.1, .int r4.1, .int r6.1, .int r10.1, .int r12.1, .retAddr 0, .retAddr 0] [.int r14.1] (sm_hp r14.2)
                refine w_blk bX8_readHedge_100 [.ref 1, .ref 3, .int r2.1, .int r4.1, .int r6.1, .int r10.1, .int r12.1, .int r14.1, .retAddr 0] [.int r14.1] (sm_hp r14.2) [] rfl (sm_on) ?_
                refine w_if_ge (tgt := 111) dX8_readHedge_104 rfl (fun hc => ?_) (fun hc => ?_)
                · replace hf := sm_ift hc hf
                  refine w_blk bX8_readHedge_111 [.ref 1, .ref 3, .int r2.1, .int r4.1, .int r6.1, .int r10.1, .int r12.1, .int r14.1, .retAddr 0] [.int (0 : Int32), .int (126 : Int32), .ref 1] (sm_hp r14.2) [] rfl (sm_on) ?_
                  replace hf := sm_bd hf
                  obtain ⟨r16, q15, hf⟩ := hf
                  refine w_callV [.int (126 : Int32), .int (0 : Int32)] [] (tX8_marked (126 : Int32) (0 : Int32) r14.2 r16 q15) (cvX8_76 rfl) dX8_readHedge_115 rfl rfl (by decide) (by decide) rfl (Nat.le_of_ble_eq_true rfl) ?_
                  show sm_W _ _ _ _ _ 118 [.ref 1, .ref 3, .int r2.1, .int r4.1, .int r6.1, .int r10.1, .int r12.1, .int r14.1, .retAddr 0] [.int r16.1] (sm_hp r16.2)
                  refine w_blk bX8_readHedge_118 [.ref 1, .ref 3, .int r2.1, .int r4.1, .int r6.1, .int r10.1, .int r12.1, .int r14.1, .int r16.1] [.int r16.1] (sm_hp r16.2) [] rfl (sm_on) ?_
                  refine w_if_ge (tgt := 127) dX8_readHedge_122 rfl (fun hc => ?_) (fun hc => ?_)
                  · replace hf := sm_ift hc hf
                    replace hf := sm_ck hf
                    obtain ⟨q17, hf⟩ := hf
                    replace hf := sm_ck hf
                    obtain ⟨q18, hf⟩ := hf
                    replace hf := sm_ck hf
                    obtain ⟨q19, hf⟩ := hf
                    replace hf := sm_ck hf
                    obtain ⟨q20, hf⟩ := hf
                    replace hf := sm_ck hf
                    obtain ⟨q21, hf⟩ := hf
                    replace hf := sm_ck hf
                    obtain ⟨q22, hf⟩ := hf
                    replace hf := sm_ck hf
                    obtain ⟨q23, hf⟩ := hf
                    refine w_blk bX8_readHedge_127 [.ref 1, .ref 3, .int r2.1, .int r4.1, .int r6.1, .int r10.1, .int r12.1, .int r14.1, .int r16.1] [.int (103 : Int32), .ref 1, .int (r16.2.1 1 5), .ref 13] (sm_hp (sm_w1 (sm_w1 (sm_w1 (sm_w1 (sm_w1 (sm_w1 (sm_w1 r16.2 6 (r16.2.1 1 5).toNatClampNeg r2.1) 7 (r16.2.1 1 5).toNatClampNeg r4.1) 8 (r16.2.1 1 5).toNatClampNeg r6.1) 9 (r16.2.1 1 5).toNatClampNeg r10.1) 10 (r16.2.1 1 5).toNatClampNeg r12.1) 11 (r16.2.1 1 5).toNatClampNeg r14.1) 12 (r16.2.1 1 5).toNatClampNeg r16.1)) [((r16.2.1 1 5), 14), ((r16.2.1 1 5), 14), ((r16.2.1 1 5), 14), ((r16.2.1 1 5), 14), ((r16.2.1 1 5), 14), ((r16.2.1 1 5), 14), ((r16.2.1 1 5), 14)] rfl (sm_oc q17 (sm_oc q18 (sm_oc q19 (sm_oc q20 (sm_oc q21 (sm_oc q22 (sm_oc q23 (sm_on)))))))) ?_
                    replace hf := sm_bd hf
                    obtain ⟨r25, q24, hf⟩ := hf
                    refine w_callV [.int (103 : Int32)] [.int (r16.2.1 1 5), .ref 13] (tX8_skip (103 : Int32) (sm_w1 (sm_w1 (sm_w1 (sm_w1 (sm_w1 (sm_w1 (sm_w1 r16.2 6 (r16.2.1 1 5).toNatClampNeg r2.1) 7 (r16.2.1 1 5).toNatClampNeg r4.1) 8 (r16.2.1 1 5).toNatClampNeg r6.1) 9 (r16.2.1 1 5).toNatClampNeg r10.1) 10 (r16.2.1 1 5).toNatClampNeg r12.1) 11 (r16.2.1 1 5).toNatClampNeg r14.1) 12 (r16.2.1 1 5).toNatClampNeg r16.1) r25 q24) (cvX8_45 rfl) dX8_readHedge_213 rfl rfl (by decide) (by decide) rfl (Nat.le_of_ble_eq_true rfl) ?_
                    show sm_W _ _ _ _ _ 216 [.ref 1, .ref 3, .int r2.1, .int r4.1, .int r6.1, .int r10.1, .int r12.1, .int r14.1, .int r16.1] [.int r25.1, .int (r16.2.1 1 5), .ref 13] (sm_hp r25.2)
                    replace hf := sm_ck hf
                    obtain ⟨q26, hf⟩ := hf
                    refine w_blk bX8_readHedge_216 [.ref 1, .ref 3, .int r2.1, .int r4.1, .int r6.1, .int r10.1, .int r12.1, .int r14.1, .int r16.1] [.int (1 : Int32)] (sm_hp (sm_w1 (sm_w1 r25.2 13 (r16.2.1 1 5).toNatClampNeg (vp_nar .boolean r25.1)) 1 5 ((r25.2.1 1 5) + (1 : Int32)))) [((r16.2.1 1 5), 14)] rfl (sm_oc q26 (sm_on)) ?_
                    obtain rfl := Option.some.inj hf
                    exact w_reti dX8_readHedge_228 rfl sm_nb1
                  · replace hf := sm_iff hc hf
                    refine w_blk bX8_readHedge_125 [.ref 1, .ref 3, .int r2.1, .int r4.1, .int r6.1, .int r10.1, .int r12.1, .int r14.1, .int r16.1] [.int (0 : Int32)] (sm_hp r16.2) [] rfl (sm_on) ?_
                    obtain rfl := Option.some.inj hf
                    exact w_reti dX8_readHedge_126 rfl sm_nb0
                · replace hf := sm_iff hc hf
                  refine w_blk bX8_readHedge_107 [.ref 1, .ref 3, .int r2.1, .int r4.1, .int r6.1, .int r10.1, .int r12.1, .int r14.1, .retAddr 0] [.int (-1 : Int32)] (sm_hp r14.2) [] rfl (sm_on) ?_
                  refine w_goto (tgt := 118) dX8_readHedge_108 rfl ?_
                  refine w_blk bX8_readHedge_118 [.ref 1, .ref 3, .int r2.1, .int r4.1, .int r6.1, .int r10.1, .int r12.1, .int r14.1, .int (-1 : Int32)] [.int (-1 : Int32)] (sm_hp r14.2) [] rfl (sm_on) ?_
                  refine w_if_ge (tgt := 127) dX8_readHedge_122 rfl (fun hc => absurd hc (by decide)) (fun _ => ?_)
                  refine w_blk bX8_readHedge_125 [.ref 1, .ref 3, .int r2.1, .int r4.1, .int r6.1, .int r10.1, .int r12.1, .int r14.1, .int (-1 : Int32)] [.int (0 : Int32)] (sm_hp r14.2) [] rfl (sm_on) ?_
                  obtain rfl := Option.some.inj hf
                  exact w_reti dX8_readHedge_126 rfl sm_nb0
              · replace hf := sm_iff hc hf
                refine w_blk bX8_readHedge_89 [.ref 1, .ref 3, .int r2.1, .int r4.1, .int r6.1, .int r10.1, .int r12.1, .retAddr 0, .retAddr 0] [.int (-1 : Int32)] (sm_hp r12.2) [] rfl (sm_on) ?_
                refine w_goto (tgt := 100) dX8_readHedge_90 rfl ?_
                refine w_blk bX8_readHedge_100 [.ref 1, .ref 3, .int r2.1, .int r4.1, .int r6.1, .int r10.1, .int r12.1, .int (-1 : Int32), .retAddr 0] [.int (-1 : Int32)] (sm_hp r12.2) [] rfl (sm_on) ?_
                refine w_if_ge (tgt := 111) dX8_readHedge_104 rfl (fun hc => absurd hc (by decide)) (fun _ => ?_)
                refine w_blk bX8_readHedge_107 [.ref 1, .ref 3, .int r2.1, .int r4.1, .int r6.1, .int r10.1, .int r12.1, .int (-1 : Int32), .retAddr 0] [.int (-1 : Int32)] (sm_hp r12.2) [] rfl (sm_on) ?_
                refine w_goto (tgt := 118) dX8_readHedge_108 rfl ?_
                refine w_blk bX8_readHedge_118 [.ref 1, .ref 3, .int r2.1, .int r4.1, .int r6.1, .int r10.1, .int r12.1, .int (-1 : Int32), .int (-1 : Int32)] [.int (-1 : Int32)] (sm_hp r12.2) [] rfl (sm_on) ?_
                refine w_if_ge (tgt := 127) dX8_readHedge_122 rfl (fun hc => absurd hc (by decide)) (fun _ => ?_)
                refine w_blk bX8_readHedge_125 [.ref 1, .ref 3, .int r2.1, .int r4.1, .int r6.1, .int r10.1, .int r12.1, .int (-1 : Int32), .int (-1 : Int32)] [.int (0 : Int32)] (sm_hp r12.2) [] rfl (sm_on) ?_
                obtain rfl := Option.some.inj hf
                exact w_reti dX8_readHedge_126 rfl sm_nb0
            · replace hf := sm_iff hc hf
              refine w_blk bX8_readHedge_73 [.ref 1, .ref 3, .int r2.1, .int r4.1, .int r6.1, .int r10.1, .retAddr 0, .retAddr 0, .retAddr 0] [.int (-1 : Int32)] (sm_hp r10.2) [] rfl (sm_on) ?_
              refine w_goto (tgt := 82) dX8_readHedge_74 rfl ?_
              refine w_blk bX8_readHedge_82 [.ref 1, .ref 3, .int r2.1, .int r4.1, .int r6.1, .int r10.1, .int (-1 : Int32), .retAddr 0, .retAddr 0] [.int (-1 : Int32)] (sm_hp r10.2) [] rfl (sm_on) ?_
              refine w_if_ge (tgt := 93) dX8_readHedge_86 rfl (fun hc => absurd hc (by decide)) (fun _ => ?_)
              refine w_blk bX8_readHedge_89 [.ref 1, .ref 3, .int r2.1, .int r4.1, .int r6.1, .int r10.1, .int (-1 : Int32), .retAddr 0, .retAddr 0] [.int (-1 : Int32)] (sm_hp r10.2) [] rfl (sm_on) ?_
              refine w_goto (tgt := 100) dX8_readHedge_90 rfl ?_
              refine w_blk bX8_readHedge_100 [.ref 1, .ref 3, .int r2.1, .int r4.1, .int r6.1, .int r10.1, .int (-1 : Int32), .int (-1 : Int32), .retAddr 0] [.int (-1 : Int32)] (sm_hp r10.2) [] rfl (sm_on) ?_
              refine w_if_ge (tgt := 111) dX8_readHedge_104 rfl (fun hc => absurd hc (by decide)) (fun _ => ?_)
              refine w_blk bX8_readHedge_107 [.ref 1, .ref 3, .int r2.1, .int r4.1, .int r6.1, .int r10.1, .int (-1 : Int32), .int (-1 : Int32), .retAddr 0] [.int (-1 : Int32)] (sm_hp r10.2) [] rfl (sm_on) ?_
              refine w_goto (tgt := 118) dX8_readHedge_108 rfl ?_
              refine w_blk bX8_readHedge_118 [.ref 1, .ref 3, .int r2.1, .int r4.1, .int r6.1, .int r10.1, .int (-1 : Int32), .int (-1 : Int32), .int (-1 : Int32)] [.int (-1 : Int32)] (sm_hp r10.2) [] rfl (sm_on) ?_
              refine w_if_ge (tgt := 127) dX8_readHedge_122 rfl (fun hc => absurd hc (by decide)) (fun _ => ?_)
              refine w_blk bX8_readHedge_125 [.ref 1, .ref 3, .int r2.1, .int r4.1, .int r6.1, .int r10.1, .int (-1 : Int32), .int (-1 : Int32), .int (-1 : Int32)] [.int (0 : Int32)] (sm_hp r10.2) [] rfl (sm_on) ?_
              obtain rfl := Option.some.inj hf
              exact w_reti dX8_readHedge_126 rfl sm_nb0
          · replace hf := sm_ift hc hf
            refine w_blk bX8_readHedge_59 [.ref 1, .ref 3, .int r2.1, .int r4.1, .int r6.1, .retAddr 0, .retAddr 0, .retAddr 0, .retAddr 0] [.int (0 : Int32)] (sm_hp r8.2) [] rfl (sm_on) ?_
            obtain rfl := Option.some.inj hf
            exact w_reti dX8_readHedge_60 rfl sm_nb0
      · replace hf := sm_iff hc hf
        refine w_blk bX8_readHedge_35 [.ref 1, .ref 3, .int r2.1, .int r4.1, .retAddr 0, .retAddr 0, .retAddr 0, .retAddr 0, .retAddr 0] [.int (-1 : Int32)] (sm_hp r4.2) [] rfl (sm_on) ?_
        refine w_goto (tgt := 43) dX8_readHedge_36 rfl ?_
        refine w_blk bX8_readHedge_43 [.ref 1, .ref 3, .int r2.1, .int r4.1, .int (-1 : Int32), .retAddr 0, .retAddr 0, .retAddr 0, .retAddr 0] [.int (-1 : Int32)] (sm_hp r4.2) [] rfl (sm_on) ?_
        refine w_if_lt (tgt := 59) dX8_readHedge_47 rfl (fun _ => ?_) (fun hc => absurd hc (by decide))
        refine w_blk bX8_readHedge_59 [.ref 1, .ref 3, .int r2.1, .int r4.1, .int (-1 : Int32), .retAddr 0, .retAddr 0, .retAddr 0, .retAddr 0] [.int (0 : Int32)] (sm_hp r4.2) [] rfl (sm_on) ?_
        obtain rfl := Option.some.inj hf
        exact w_reti dX8_readHedge_60 rfl sm_nb0
    · replace hf := sm_iff hc hf
      refine w_blk bX8_readHedge_21 [.ref 1, .ref 3, .int r2.1, .retAddr 0, .retAddr 0, .retAddr 0, .retAddr 0, .retAddr 0, .retAddr 0] [.int (-1 : Int32)] (sm_hp r2.2) [] rfl (sm_on) ?_
      refine w_goto (tgt := 30) dX8_readHedge_22 rfl ?_
      refine w_blk bX8_readHedge_30 [.ref 1, .ref 3, .int r2.1, .int (-1 : Int32), .retAddr 0, .retAddr 0, .retAddr 0, .retAddr 0, .retAddr 0] [.int (-1 : Int32)] (sm_hp r2.2) [] rfl (sm_on) ?_
      refine w_if_ge (tgt := 39) dX8_readHedge_32 rfl (fun hc => absurd hc (by decide)) (fun _ => ?_)
      refine w_blk bX8_readHedge_35 [.ref 1, .ref 3, .int r2.1, .int (-1 : Int32), .retAddr 0, .retAddr 0, .retAddr 0, .retAddr 0, .retAddr 0] [.int (-1 : Int32)] (sm_hp r2.2) [] rfl (sm_on) ?_
      refine w_goto (tgt := 43) dX8_readHedge_36 rfl ?_
      refine w_blk bX8_readHedge_43 [.ref 1, .ref 3, .int r2.1, .int (-1 : Int32), .int (-1 : Int32), .retAddr 0, .retAddr 0, .retAddr 0, .retAddr 0] [.int (-1 : Int32)] (sm_hp r2.2) [] rfl (sm_on) ?_
      refine w_if_lt (tgt := 59) dX8_readHedge_47 rfl (fun _ => ?_) (fun hc => absurd hc (by decide))
      refine w_blk bX8_readHedge_59 [.ref 1, .ref 3, .int r2.1, .int (-1 : Int32), .int (-1 : Int32), .retAddr 0, .retAddr 0, .retAddr 0, .retAddr 0] [.int (0 : Int32)] (sm_hp r2.2) [] rfl (sm_on) ?_
      obtain rfl := Option.some.inj hf
      exact w_reti dX8_readHedge_60 rfl sm_nb0
  · replace hf := sm_iff hc hf
    refine w_blk bX8_readHedge_9 [.ref 1, .ref 3, .retAddr 0, .retAddr 0, .retAddr 0, .retAddr 0, .retAddr 0, .retAddr 0, .retAddr 0] [.int (0 : Int32)] (sm_hp m) [] rfl (sm_on) ?_
    obtain rfl := Option.some.inj hf
    exact w_reti dX8_readHedge_10 rfl sm_nb0
set_option maxRecDepth 10000 in
theorem tX8_readCorner {l : Launch} {al : Bool} (m : sm_S) (r : Int32 × sm_S) (hf : fX8_readCorner m = some r) : sm_Rt l mX8_readCorner 3 0 0 al al [.ref 1, .ref 3] (sm_hp m) (some (.int r.1), sm_hp r.2) := by
  refine sm_Rt.ofW (L := [.ref 1, .ref 3, .retAddr 0, .retAddr 0]) (by decide) (Nat.le_of_ble_eq_true rfl) rfl ?_
  unfold fX8_readCorner at hf
  refine w_blk bX8_readCorner_0 [.ref 1, .ref 3, .retAddr 0, .retAddr 0] [.int (10 : Int32), .int (m.1 1 4)] (sm_hp m) [] rfl (sm_on) ?_
  refine w_icmp_lt (tgt := 11) dX8_readCorner_6 rfl (fun hc => ?_) (fun hc => ?_)
  · replace hf := sm_ift hc hf
    refine w_blk bX8_readCorner_11 [.ref 1, .ref 3, .retAddr 0, .retAddr 0] [.int (9 : Int32), .ref 1] (sm_hp (sm_w1 m 1 2 ((m.1 1 2) + (1 : Int32)))) [] rfl (sm_on) ?_
    replace hf := sm_bd hf
    obtain ⟨r2, q1, hf⟩ := hf
    refine w_callV [.int (9 : Int32)] [] (tX8_digit (9 : Int32) (sm_w1 m 1 2 ((m.1 1 2) + (1 : Int32))) r2 q1) (cvX8_59 rfl) dX8_readCorner_24 rfl rfl (by decide) (by decide) rfl (Nat.le_of_ble_eq_true rfl) ?_
    show sm_W _ _ _ _ _ 27 [.ref 1, .ref 3, .retAddr 0, .retAddr 0] [.int r2.1] (sm_hp r2.2)
    refine w_blk bX8_readCorner_27 [.ref 1, .ref 3, .int r2.1, .retAddr 0] [.int r2.1] (sm_hp r2.2) [] rfl (sm_on) ?_
    refine w_if_ge (tgt := 36) dX8_readCorner_29 rfl (fun hc => ?_) (fun hc => ?_)
    · replace hf := sm_ift hc hf
      refine w_blk bX8_readCorner_36 [.ref 1, .ref 3, .int r2.1, .retAddr 0] [.int (9 : Int32), .ref 1] (sm_hp r2.2) [] rfl (sm_on) ?_
      replace hf := sm_bd hf
      obtain ⟨r4, q3, hf⟩ := hf
      refine w_callV [.int (9 : Int32)] [] (tX8_digit (9 : Int32) r2.2 r4 q3) (cvX8_59 rfl) dX8_readCorner_39 rfl rfl (by decide) (by decide) rfl (Nat.le_of_ble_eq_true rfl) ?_
      show sm_W _ _ _ _ _ 42 [.ref 1, .ref 3, .int r2.1, .retAddr 0] [.int r4.1] (sm_hp r4.2)
      refine w_blk bX8_readCorner_42 [.ref 1, .ref 3, .int r2.1, .int r4.1] [.int r4.1] (sm_hp r4.2) [] rfl (sm_on) ?_
      refine w_if_ge (tgt := 49) dX8_readCorner_44 rfl (fun hc => ?_) (fun hc => ?_)
      · replace hf := sm_ift hc hf
        replace hf := sm_ck hf
        obtain ⟨q5, hf⟩ := hf
        replace hf := sm_ck hf
        obtain ⟨q6, hf⟩ := hf
        refine w_blk bX8_readCorner_49 [.ref 1, .ref 3, .int r2.1, .int r4.1] [.int (1 : Int32)] (sm_hp (sm_w1 (sm_w1 (sm_w1 r4.2 4 (r4.2.1 1 4).toNatClampNeg r2.1) 5 (r4.2.1 1 4).toNatClampNeg r4.1) 1 4 ((r4.2.1 1 4) + (1 : Int32)))) [((r4.2.1 1 4), 10), ((r4.2.1 1 4), 10)] rfl (sm_oc q5 (sm_oc q6 (sm_on))) ?_
        obtain rfl := Option.some.inj hf
        exact w_reti dX8_readCorner_80 rfl sm_nb1
      · replace hf := sm_iff hc hf
        refine w_blk bX8_readCorner_47 [.ref 1, .ref 3, .int r2.1, .int r4.1] [.int (0 : Int32)] (sm_hp r4.2) [] rfl (sm_on) ?_
        obtain rfl := Option.some.inj hf
        exact w_reti dX8_readCorner_48 rfl sm_nb0
    · replace hf := sm_iff hc hf
      refine w_blk bX8_readCorner_32 [.ref 1, .ref 3, .int r2.1, .retAddr 0] [.int (-1 : Int32)] (sm_hp r2.2) [] rfl (sm_on) ?_
      refine w_goto (tgt := 42) dX8_readCorner_33 rfl ?_
      refine w_blk bX8_readCorner_42 [.ref 1, .ref 3, .int r2.1, .int (-1 : Int32)] [.int (-1 : Int32)] (sm_hp r2.2) [] rfl (sm_on) ?_
      refine w_if_ge (tgt := 49) dX8_readCorner_44 rfl (fun hc => absurd hc (by decide)) (fun _ => ?_)
      refine w_blk bX8_readCorner_47 [.ref 1, .ref 3, .int r2.1, .int (-1 : Int32)] [.int (0 : Int32)] (sm_hp r2.2) [] rfl (sm_on) ?_
      obtain rfl := Option.some.inj hf
      exact w_reti dX8_readCorner_48 rfl sm_nb0
  · replace hf := sm_iff hc hf
    refine w_blk bX8_readCorner_9 [.ref 1, .ref 3, .retAddr 0, .retAddr 0] [.int (0 : Int32)] (sm_hp m) [] rfl (sm_on) ?_
    obtain rfl := Option.some.inj hf
    exact w_reti dX8_readCorner_10 rfl sm_nb0
set_option maxRecDepth 10000 in
theorem tX8_readLine {l : Launch} {al : Bool} (m : sm_S) (r : Int32 × sm_S) (hf : fX8_readLine m = some r) : sm_Rt l mX8_readLine 5 0 0 al al [.ref 1, .ref 3] (sm_hp m) (some (.int r.1), sm_hp r.2) := by
  refine sm_Rt.ofW (L := [.ref 1, .ref 3]) (by decide) (Nat.le_of_ble_eq_true rfl) rfl ?_
  unfold fX8_readLine at hf
  refine w_blk bX8_readLine_0 [.ref 1, .ref 3] [.ref 1] (sm_hp m) [] rfl (sm_on) ?_
  replace hf := sm_bd hf
  obtain ⟨r2, q1, hf⟩ := hf
  refine w_callV [] [] (tX8_signAt m r2 q1) (cvX8_49 rfl) dX8_readLine_1 rfl rfl (by decide) (by decide) rfl (Nat.le_of_ble_eq_true rfl) ?_
  show sm_W _ _ _ _ _ 4 [.ref 1, .ref 3] [.int r2] (sm_hp m)
  refine w_blk bX8_readLine_4 [.ref 1, .ref 3] [.int (64 : Int32), .int r2] (sm_hp m) [] rfl (sm_on) ?_
  refine w_icmp_ne (tgt := 17) dX8_readLine_6 rfl (fun hc => ?_) (fun hc => ?_)
  · replace hf := sm_iff hc hf
    refine w_blk bX8_readLine_17 [.ref 1, .ref 3] [.ref 3, .ref 1] (sm_hp m) [] rfl (sm_on) ?_
    replace hf := sm_bd hf
    obtain ⟨r4, q3, hf⟩ := hf
    refine w_callV [.ref 3] [] (tX8_readHedge m r4 q3) (cvX8_56 rfl) dX8_readLine_19 rfl rfl (by decide) (by decide) rfl (Nat.le_of_ble_eq_true rfl) ?_
    show sm_W _ _ _ _ _ 22 [.ref 1, .ref 3] [.int r4.1] (sm_hp r4.2)
    replace hf := sm_ck hf
    obtain ⟨q5, hf⟩ := hf
    obtain rfl := Option.some.inj hf
    exact w_reti dX8_readLine_22 rfl q5
  · replace hf := sm_ift hc hf
    refine w_blk bX8_readLine_9 [.ref 1, .ref 3] [.ref 3, .ref 1] (sm_hp m) [] rfl (sm_on) ?_
    replace hf := sm_bd hf
    obtain ⟨r7, q6, hf⟩ := hf
    refine w_callV [.ref 3] [] (tX8_readCorner m r7 q6) (cvX8_53 rfl) dX8_readLine_11 rfl rfl (by decide) (by decide) rfl (Nat.le_of_ble_eq_true rfl) ?_
    show sm_W _ _ _ _ _ 14 [.ref 1, .ref 3] [.int r7.1] (sm_hp r7.2)
    refine w_goto (tgt := 22) dX8_readLine_14 rfl ?_
    replace hf := sm_ck hf
    obtain ⟨q8, hf⟩ := hf
    obtain rfl := Option.some.inj hf
    exact w_reti dX8_readLine_22 rfl q8
set_option maxRecDepth 10000 in
theorem tX8_readLines_38 {l : Launch} {al : Bool} : ∀ (n : Nat) (v2 : Int32) (v3 : Int32) (m : sm_S) (r : Int32 × sm_S), fX8_readLines_38 n v2 v3 m = some r → sm_W l mX8_readLines 6 al (some (.int r.1), sm_hp r.2) 38 [.ref 1, .ref 3, .int v2, .int v3] [] (sm_hp m) := by
  intro n
  induction n with
  | zero =>
    intro v2 v3 m r hf
    unfold fX8_readLines_38 at hf
    cases hf
  | succ n ih =>
    intro v2 v3 m r hf
    unfold fX8_readLines_38 at hf
    refine w_blk bX8_readLines_38 [.ref 1, .ref 3, .int v2, .int v3] [.int v3] (sm_hp m) [] rfl (sm_on) ?_
    refine w_if_eq (tgt := 76) dX8_readLines_39 rfl (fun hc => ?_) (fun hc => ?_)
    · replace hf := sm_ift hc hf
      refine w_blk bX8_readLines_76 [.ref 1, .ref 3, .int v2, .int v3] [.int (m.1 1 1), .int (m.1 1 2)] (sm_hp m) [] rfl (sm_on) ?_
      refine w_icmp_ge (tgt := 94) dX8_readLines_84 rfl (fun hc => ?_) (fun hc => ?_)
      · replace hf := sm_ift hc hf
        refine w_blk bX8_readLines_94 [.ref 1, .ref 3, .int v2, .int v3] [.int v2] (sm_hp (sm_w1 (sm_w1 m 3 0 (m.1 1 4)) 3 1 (m.1 1 5))) [] rfl (sm_on) ?_
        obtain rfl := Option.some.inj hf
        exact w_reti dX8_readLines_111 rfl rfl
      · replace hf := sm_iff hc hf
        refine w_blk bX8_readLines_87 [.ref 1, .ref 3, .int v2, .int v3] [.int ((-1 : Int32) - (m.1 1 2))] (sm_hp m) [] rfl (sm_on) ?_
        obtain rfl := Option.some.inj hf
        exact w_reti dX8_readLines_93 rfl rfl
    · replace hf := sm_iff hc hf
      refine w_blk bX8_readLines_42 [.ref 1, .ref 3, .int v2, .int v3] [.int (76 : Int32), .int v2] (sm_hp m) [] rfl (sm_on) ?_
      refine w_icmp_gt (tgt := 76) dX8_readLines_45 rfl (fun hc => ?_) (fun hc => ?_)
      · replace hf := sm_ift hc hf
        refine w_blk bX8_readLines_76 [.ref 1, .ref 3, .int v2, .int v3] [.int (m.1 1 1), .int (m.1 1 2)] (sm_hp m) [] rfl (sm_on) ?_
        refine w_icmp_ge (tgt := 94) dX8_readLines_84 rfl (fun hc => ?_) (fun hc => ?_)
        · replace hf := sm_ift hc hf
          refine w_blk bX8_readLines_94 [.ref 1, .ref 3, .int v2, .int v3] [.int v2] (sm_hp (sm_w1 (sm_w1 m 3 0 (m.1 1 4)) 3 1 (m.1 1 5))) [] rfl (sm_on) ?_
          obtain rfl := Option.some.inj hf
          exact w_reti dX8_readLines_111 rfl rfl
        · replace hf := sm_iff hc hf
          refine w_blk bX8_readLines_87 [.ref 1, .ref 3, .int v2, .int v3] [.int ((-1 : Int32) - (m.1 1 2))] (sm_hp m) [] rfl (sm_on) ?_
          obtain rfl := Option.some.inj hf
          exact w_reti dX8_readLines_93 rfl rfl
      · replace hf := sm_iff hc hf
        refine w_blk bX8_readLines_48 [.ref 1, .ref 3, .int v2, .int v3] [.ref 3, .ref 1] (sm_hp m) [] rfl (sm_on) ?_
        replace hf := sm_bd hf
        obtain ⟨r2, q1, hf⟩ := hf
        refine w_callV [.ref 3] [] (tX8_readLine m r2 q1) (cvX8_41 rfl) dX8_readLines_50 rfl rfl (by decide) (by decide) rfl (Nat.le_of_ble_eq_true rfl) ?_
        show sm_W _ _ _ _ _ 53 [.ref 1, .ref 3, .int v2, .int v3] [.int r2.1] (sm_hp r2.2)
        refine w_if_ne (tgt := 63) dX8_readLines_53 rfl (fun hc => ?_) (fun hc => ?_)
        · replace hf := sm_iff hc hf
          refine w_blk bX8_readLines_63 [.ref 1, .ref 3, .int (v2 + (1 : Int32)), .int v3] [.int (59 : Int32), .ref 1] (sm_hp r2.2) [] rfl (sm_on) ?_
          replace hf := sm_bd hf
          obtain ⟨r4, q3, hf⟩ := hf
          refine w_callV [.int (59 : Int32)] [] (tX8_skip (59 : Int32) r2.2 r4 q3) (cvX8_45 rfl) dX8_readLines_69 rfl rfl (by decide) (by decide) rfl (Nat.le_of_ble_eq_true rfl) ?_
          show sm_W _ _ _ _ _ 72 [.ref 1, .ref 3, .int (v2 + (1 : Int32)), .int v3] [.int r4.1] (sm_hp r4.2)
          refine w_blk bX8_readLines_72 [.ref 1, .ref 3, .int (v2 + (1 : Int32)), .int r4.1] [] (sm_hp r4.2) [] rfl (sm_on) ?_
          refine w_goto (tgt := 38) dX8_readLines_73 rfl ?_
          exact ih (v2 + (1 : Int32)) r4.1 r4.2 r hf
        · replace hf := sm_ift hc hf
          refine w_blk bX8_readLines_56 [.ref 1, .ref 3, .int v2, .int v3] [.int ((-1 : Int32) - (r2.2.1 1 2))] (sm_hp r2.2) [] rfl (sm_on) ?_
          obtain rfl := Option.some.inj hf
          exact w_reti dX8_readLines_62 rfl rfl
set_option maxRecDepth 10000 in
theorem tX8_readLines {l : Launch} {al : Bool} (m : sm_S) (r : Int32 × sm_S) (hf : fX8_readLines m = some r) : sm_Rt l mX8_readLines 6 0 0 al al [.ref 1, .ref 3] (sm_hp m) (some (.int r.1), sm_hp r.2) := by
  refine sm_Rt.ofW (L := [.ref 1, .ref 3, .retAddr 0, .retAddr 0]) (by decide) (Nat.le_of_ble_eq_true rfl) rfl ?_
  unfold fX8_readLines at hf
  refine w_blk bX8_readLines_0 [.ref 1, .ref 3, .int (0 : Int32), .int (1 : Int32)] [] (sm_hp (sm_w1 (sm_w1 (sm_w1 (sm_w1 m 1 2 (0 : Int32)) 1 3 (if (76 : Int32) < (m.1 1 1) then (76 : Int32) else (m.1 1 1))) 1 4 (m.1 3 0)) 1 5 (m.1 3 1))) [] rfl (sm_on) ?_
  exact tX8_readLines_38 sm_fu (0 : Int32) (1 : Int32) (sm_w1 (sm_w1 (sm_w1 (sm_w1 m 1 2 (0 : Int32)) 1 3 (if (76 : Int32) < (m.1 1 1) then (76 : Int32) else (m.1 1 1))) 1 4 (m.1 3 0)) 1 5 (m.1 3 1)) r hf
set_option maxRecDepth 10000 in
theorem tX11_land {l : Launch} {al : Bool} (m : sm_S) (r : Int32 × sm_S) (hf : fX11_land m = some r) : sm_Rt l mX11_land 7 0 0 al al [.ref 0] (sm_hp m) (some (.int r.1), sm_hp r.2) := by
  refine sm_Rt.ofW (L := [.ref 0, .retAddr 0]) (by decide) (Nat.le_of_ble_eq_true rfl) rfl ?_
  unfold fX11_land at hf
  refine w_blk bX11_land_0 [.ref 0, .retAddr 0] [.int (m.1 1 1)] (sm_hp m) [] rfl (sm_on) ?_
  refine w_if_ne (tgt := 12) dX11_land_7 rfl (fun hc => ?_) (fun hc => ?_)
  · replace hf := sm_iff hc hf
    refine w_blk bX11_land_12 [.ref 0, .retAddr 0] [.ref 3, .ref 1] (sm_hp m) [] rfl (sm_on) ?_
    replace hf := sm_bd hf
    obtain ⟨r2, q1, hf⟩ := hf
    refine w_callV [.ref 3] [] (tX8_readLines m r2 q1) (cvX11_98 rfl) dX11_land_20 rfl rfl (by decide) (by decide) rfl (Nat.le_of_ble_eq_true rfl) ?_
    show sm_W _ _ _ _ _ 23 [.ref 0, .retAddr 0] [.int r2.1] (sm_hp r2.2)
    refine w_blk bX11_land_23 [.ref 0, .int r2.1] [.int r2.1] (sm_hp (sm_w1 r2.2 1 1 (0 : Int32))) [] rfl (sm_on) ?_
    refine w_if_le (tgt := 44) dX11_land_33 rfl (fun hc => ?_) (fun hc => ?_)
    · replace hf := sm_ift hc hf
      refine w_blk bX11_land_44 [.ref 0, .int r2.1] [.int r2.1] (sm_hp (sm_w1 r2.2 1 1 (0 : Int32))) [] rfl (sm_on) ?_
      obtain rfl := Option.some.inj hf
      exact w_reti dX11_land_45 rfl rfl
    · replace hf := sm_iff hc hf
      refine w_blk bX11_land_36 [.ref 0, .int r2.1] [] (sm_hp (sm_w1 (sm_w1 r2.2 1 1 (0 : Int32)) 20 0 (0 : Int32))) [] rfl (sm_on) ?_
      refine w_blk bX11_land_44 [.ref 0, .int r2.1] [.int r2.1] (sm_hp (sm_w1 (sm_w1 r2.2 1 1 (0 : Int32)) 20 0 (0 : Int32))) [] rfl (sm_on) ?_
      obtain rfl := Option.some.inj hf
      exact w_reti dX11_land_45 rfl rfl
  · replace hf := sm_ift hc hf
    refine w_blk bX11_land_10 [.ref 0, .retAddr 0] [.int (0 : Int32)] (sm_hp m) [] rfl (sm_on) ?_
    obtain rfl := Option.some.inj hf
    exact w_reti dX11_land_11 rfl rfl
set_option maxRecDepth 10000 in
theorem tX2_hasHedge {l : Launch} {al : Bool} (x1 : Int32) (m : sm_S) (r : Int32) (hf : fX2_hasHedge x1 m = some r) : sm_Rt l mX2_hasHedge 1 0 0 al al [.ref 3, .int x1] (sm_hp m) (some (.int r), sm_hp m) := by
  refine sm_Rt.ofW (L := [.ref 3, .int x1]) (by decide) (Nat.le_of_ble_eq_true rfl) rfl ?_
  unfold fX2_hasHedge at hf
  refine w_blk bX2_hasHedge_0 [.ref 3, .int x1] [.int x1] (sm_hp m) [] rfl (sm_on) ?_
  refine w_if_lt (tgt := 16) dX2_hasHedge_1 rfl (fun hc => ?_) (fun hc => ?_)
  · replace hf := sm_ift hc hf
    refine w_blk bX2_hasHedge_16 [.ref 3, .int x1] [.int (0 : Int32)] (sm_hp m) [] rfl (sm_on) ?_
    obtain rfl := Option.some.inj hf
    exact w_reti dX2_hasHedge_17 rfl sm_nb0
  · replace hf := sm_iff hc hf
    refine w_blk bX2_hasHedge_4 [.ref 3, .int x1] [.int (m.1 3 1), .int x1] (sm_hp m) [] rfl (sm_on) ?_
    refine w_icmp_ge (tgt := 16) dX2_hasHedge_9 rfl (fun hc => ?_) (fun hc => ?_)
    · replace hf := sm_ift hc hf
      refine w_blk bX2_hasHedge_16 [.ref 3, .int x1] [.int (0 : Int32)] (sm_hp m) [] rfl (sm_on) ?_
      obtain rfl := Option.some.inj hf
      exact w_reti dX2_hasHedge_17 rfl sm_nb0
    · replace hf := sm_iff hc hf
      refine w_blk bX2_hasHedge_12 [.ref 3, .int x1] [.int (1 : Int32)] (sm_hp m) [] rfl (sm_on) ?_
      refine w_goto (tgt := 17) dX2_hasHedge_13 rfl ?_
      obtain rfl := Option.some.inj hf
      exact w_reti dX2_hasHedge_17 rfl sm_nb1
set_option maxRecDepth 10000 in
theorem tX6_day {l : Launch} {al : Bool} (m : sm_S) (r : Int32) (hf : fX6_day m = some r) : sm_Rt l mX6_day 1 0 0 al al [.ref 16] (sm_hp m) (some (.int r), sm_hp m) := by
  refine sm_Rt.ofW (L := [.ref 16]) (by decide) (Nat.le_of_ble_eq_true rfl) rfl ?_
  unfold fX6_day at hf
  refine w_blk bX6_day_0 [.ref 16] [.int ((m.1 16 1) / (60 : Int32))] (sm_hp m) [] rfl (sm_on) ?_
  obtain rfl := Option.some.inj hf
  exact w_reti dX6_day_7 rfl rfl
set_option maxRecDepth 10000 in
theorem tX6_isFresh {l : Launch} {al : Bool} (x1 : Int32) (m : sm_S) (r : Int32) (hf : fX6_isFresh x1 m = some r) : sm_Rt l mX6_isFresh 2 0 0 al al [.ref 16, .ref 3, .int x1] (sm_hp m) (some (.int r), sm_hp m) := by
  refine sm_Rt.ofW (L := [.ref 16, .ref 3, .int x1]) (by decide) (Nat.le_of_ble_eq_true rfl) rfl ?_
  unfold fX6_isFresh at hf
  replace hf := sm_ck hf
  obtain ⟨q1, hf⟩ := hf
  refine w_blk bX6_isFresh_0 [.ref 16, .ref 3, .int x1] [.int (-1 : Int32), .int (m.1 17 (x1).toNatClampNeg)] (sm_hp m) [(x1, 14)] rfl (sm_oc q1 (sm_on)) ?_
  refine w_icmp_eq (tgt := 28) dX6_isFresh_7 rfl (fun hc => ?_) (fun hc => ?_)
  · replace hf := sm_ift hc hf
    refine w_blk bX6_isFresh_28 [.ref 16, .ref 3, .int x1] [.int (1 : Int32)] (sm_hp m) [] rfl (sm_on) ?_
    refine w_goto (tgt := 33) dX6_isFresh_29 rfl ?_
    obtain rfl := Option.some.inj hf
    exact w_reti dX6_isFresh_33 rfl sm_nb1
  · replace hf := sm_iff hc hf
    refine w_blk bX6_isFresh_10 [.ref 16, .ref 3, .int x1] [.ref 16] (sm_hp m) [] rfl (sm_on) ?_
    replace hf := sm_bd hf
    obtain ⟨r3, q2, hf⟩ := hf
    refine w_callV [] [] (tX6_day m r3 q2) (cvX6_22 rfl) dX6_isFresh_11 rfl rfl (by decide) (by decide) rfl (Nat.le_of_ble_eq_true rfl) ?_
    show sm_W _ _ _ _ _ 14 [.ref 16, .ref 3, .int x1] [.int r3] (sm_hp m)
    replace hf := sm_ck hf
    obtain ⟨q4, hf⟩ := hf
    refine w_blk bX6_isFresh_14 [.ref 16, .ref 3, .int x1] [.int (m.1 3 2), .int (r3 - (m.1 17 (x1).toNatClampNeg))] (sm_hp m) [(x1, 14)] rfl (sm_oc q4 (sm_on)) ?_
    refine w_icmp_lt (tgt := 32) dX6_isFresh_25 rfl (fun hc => ?_) (fun hc => ?_)
    · replace hf := sm_ift hc hf
      refine w_blk bX6_isFresh_32 [.ref 16, .ref 3, .int x1] [.int (0 : Int32)] (sm_hp m) [] rfl (sm_on) ?_
      obtain rfl := Option.some.inj hf
      exact w_reti dX6_isFresh_33 rfl sm_nb0
    · replace hf := sm_iff hc hf
      refine w_blk bX6_isFresh_28 [.ref 16, .ref 3, .int x1] [.int (1 : Int32)] (sm_hp m) [] rfl (sm_on) ?_
      refine w_goto (tgt := 33) dX6_isFresh_29 rfl ?_
      obtain rfl := Option.some.inj hf
      exact w_reti dX6_isFresh_33 rfl sm_nb1
set_option maxRecDepth 10000 in
theorem tX11_hedge {l : Launch} {al : Bool} (x1 : Int32) (x2 : Int32) (m : sm_S) (r : Int32) (hf : fX11_hedge x1 x2 m = some r) : sm_Rt l mX11_hedge 3 0 0 al al [.ref 0, .int x1, .int x2] (sm_hp m) (some (.int r), sm_hp m) := by
  refine sm_Rt.ofW (L := [.ref 0, .int x1, .int x2]) (by decide) (Nat.le_of_ble_eq_true rfl) rfl ?_
  unfold fX11_hedge at hf
  refine w_blk bX11_hedge_0 [.ref 0, .int x1, .int x2] [.int x1, .ref 3] (sm_hp m) [] rfl (sm_on) ?_
  replace hf := sm_bd hf
  obtain ⟨r2, q1, hf⟩ := hf
  refine w_callV [.int x1] [] (tX2_hasHedge x1 m r2 q1) (cvX11_105 rfl) dX11_hedge_5 rfl rfl (by decide) (by decide) rfl (Nat.le_of_ble_eq_true rfl) ?_
  show sm_W _ _ _ _ _ 8 [.ref 0, .int x1, .int x2] [.int r2] (sm_hp m)
  refine w_if_eq (tgt := 21) dX11_hedge_8 rfl (fun hc => ?_) (fun hc => ?_)
  · replace hf := sm_ift hc hf
    cases hf
  · replace hf := sm_iff hc hf
    refine w_blk bX11_hedge_11 [.ref 0, .int x1, .int x2] [.int x2] (sm_hp m) [] rfl (sm_on) ?_
    refine w_if_lt (tgt := 21) dX11_hedge_12 rfl (fun hc => ?_) (fun hc => ?_)
    · replace hf := sm_ift hc hf
      cases hf
    · replace hf := sm_iff hc hf
      refine w_blk bX11_hedge_15 [.ref 0, .int x1, .int x2] [.int (8 : Int32), .int x2] (sm_hp m) [] rfl (sm_on) ?_
      refine w_icmp_le (tgt := 31) dX11_hedge_18 rfl (fun hc => ?_) (fun hc => ?_)
      · replace hf := sm_ift hc hf
        refine w_blk bX11_hedge_31 [.ref 0, .int x1, .int x2] [.int x2] (sm_hp m) [] rfl (sm_on) ?_
        by_cases hc3 : x2 = (0 : Int32)
        · replace hf := sm_ift hc3 hf
          refine w_tableIn (off := 48) (tgt := 80) dX11_hedge_32 (by rw [hc3]; decide) (by rw [hc3]; decide) (by rw [hc3]; rfl) rfl ?_
          replace hf := sm_ck hf
          obtain ⟨q4, hf⟩ := hf
          refine w_blk bX11_hedge_80 [.ref 0, .int x1, .int x2] [.int (m.1 6 (x1).toNatClampNeg)] (sm_hp m) [(x1, 14)] rfl (sm_oc q4 (sm_on)) ?_
          obtain rfl := Option.some.inj hf
          exact w_reti dX11_hedge_89 rfl rfl
        · replace hf := sm_iff hc3 hf
          by_cases hc5 : x2 = (1 : Int32)
          · replace hf := sm_ift hc5 hf
            refine w_tableIn (off := 58) (tgt := 90) dX11_hedge_32 (by rw [hc5]; decide) (by rw [hc5]; decide) (by rw [hc5]; rfl) rfl ?_
            replace hf := sm_ck hf
            obtain ⟨q6, hf⟩ := hf
            refine w_blk bX11_hedge_90 [.ref 0, .int x1, .int x2] [.int (m.1 7 (x1).toNatClampNeg)] (sm_hp m) [(x1, 14)] rfl (sm_oc q6 (sm_on)) ?_
            obtain rfl := Option.some.inj hf
            exact w_reti dX11_hedge_99 rfl rfl
          · replace hf := sm_iff hc5 hf
            by_cases hc7 : x2 = (2 : Int32)
            · replace hf := sm_ift hc7 hf
              refine w_tableIn (off := 68) (tgt := 100) dX11_hedge_32 (by rw [hc7]; decide) (by rw [hc7]; decide) (by rw [hc7]; rfl) rfl ?_
              replace hf := sm_ck hf
              obtain ⟨q8, hf⟩ := hf
              refine w_blk bX11_hedge_100 [.ref 0, .int x1, .int x2] [.int (m.1 8 (x1).toNatClampNeg)] (sm_hp m) [(x1, 14)] rfl (sm_oc q8 (sm_on)) ?_
              obtain rfl := Option.some.inj hf
              exact w_reti dX11_hedge_109 rfl rfl
            · replace hf := sm_iff hc7 hf
              by_cases hc9 : x2 = (3 : Int32)
              · replace hf := sm_ift hc9 hf
                refine w_tableIn (off := 78) (tgt := 110) dX11_hedge_32 (by rw [hc9]; decide) (by rw [hc9]; decide) (by rw [hc9]; rfl) rfl ?_
                replace hf := sm_ck hf
                obtain ⟨q10, hf⟩ := hf
                refine w_blk bX11_hedge_110 [.ref 0, .int x1, .int x2] [.int (m.1 9 (x1).toNatClampNeg)] (sm_hp m) [(x1, 14)] rfl (sm_oc q10 (sm_on)) ?_
                obtain rfl := Option.some.inj hf
                exact w_reti dX11_hedge_119 rfl rfl
              · replace hf := sm_iff hc9 hf
                by_cases hc11 : x2 = (4 : Int32)
                · replace hf := sm_ift hc11 hf
                  refine w_tableIn (off := 88) (tgt := 120) dX11_hedge_32 (by rw [hc11]; decide) (by rw [hc11]; decide) (by rw [hc11]; rfl) rfl ?_
                  replace hf := sm_ck hf
                  obtain ⟨q12, hf⟩ := hf
                  refine w_blk bX11_hedge_120 [.ref 0, .int x1, .int x2] [.int (m.1 10 (x1).toNatClampNeg)] (sm_hp m) [(x1, 14)] rfl (sm_oc q12 (sm_on)) ?_
                  obtain rfl := Option.some.inj hf
                  exact w_reti dX11_hedge_129 rfl rfl
                · replace hf := sm_iff hc11 hf
                  by_cases hc13 : x2 = (5 : Int32)
                  · replace hf := sm_ift hc13 hf
                    refine w_tableIn (off := 98) (tgt := 130) dX11_hedge_32 (by rw [hc13]; decide) (by rw [hc13]; decide) (by rw [hc13]; rfl) rfl ?_
                    replace hf := sm_ck hf
                    obtain ⟨q14, hf⟩ := hf
                    refine w_blk bX11_hedge_130 [.ref 0, .int x1, .int x2] [.int (m.1 11 (x1).toNatClampNeg)] (sm_hp m) [(x1, 14)] rfl (sm_oc q14 (sm_on)) ?_
                    obtain rfl := Option.some.inj hf
                    exact w_reti dX11_hedge_139 rfl rfl
                  · replace hf := sm_iff hc13 hf
                    by_cases hc15 : x2 = (6 : Int32)
                    · replace hf := sm_ift hc15 hf
                      refine w_tableIn (off := 108) (tgt := 140) dX11_hedge_32 (by rw [hc15]; decide) (by rw [hc15]; decide) (by rw [hc15]; rfl) rfl ?_
                      replace hf := sm_ck hf
                      obtain ⟨q16, hf⟩ := hf
                      refine w_blk bX11_hedge_140 [.ref 0, .int x1, .int x2] [.int (m.1 12 (x1).toNatClampNeg)] (sm_hp m) [(x1, 14)] rfl (sm_oc q16 (sm_on)) ?_
                      obtain rfl := Option.some.inj hf
                      exact w_reti dX11_hedge_149 rfl rfl
                    · replace hf := sm_iff hc15 hf
                      by_cases hc17 : x2 = (7 : Int32)
                      · replace hf := sm_ift hc17 hf
                        refine w_tableIn (off := 118) (tgt := 150) dX11_hedge_32 (by rw [hc17]; decide) (by rw [hc17]; decide) (by rw [hc17]; rfl) rfl ?_
                        replace hf := sm_ck hf
                        obtain ⟨q18, hf⟩ := hf
                        refine w_blk bX11_hedge_150 [.ref 0, .int x1, .int x2] [.int (m.1 13 (x1).toNatClampNeg)] (sm_hp m) [(x1, 14)] rfl (sm_oc q18 (sm_on)) ?_
                        refine w_if_eq (tgt := 166) dX11_hedge_159 rfl (fun hc => ?_) (fun hc => ?_)
                        · replace hf := sm_ift hc hf
                          refine w_blk bX11_hedge_166 [.ref 0, .int x1, .int x2] [.int (0 : Int32)] (sm_hp m) [] rfl (sm_on) ?_
                          obtain rfl := Option.some.inj hf
                          exact w_reti dX11_hedge_167 rfl rfl
                        · replace hf := sm_iff hc hf
                          refine w_blk bX11_hedge_162 [.ref 0, .int x1, .int x2] [.int (1 : Int32)] (sm_hp m) [] rfl (sm_on) ?_
                          refine w_goto (tgt := 167) dX11_hedge_163 rfl ?_
                          obtain rfl := Option.some.inj hf
                          exact w_reti dX11_hedge_167 rfl rfl
                      · replace hf := sm_iff hc17 hf
                        refine w_tableOut (tgt := 168) dX11_hedge_32 (sm_tab (n := 7) [(0 : Int32), (1 : Int32), (2 : Int32), (3 : Int32), (4 : Int32), (5 : Int32), (6 : Int32), (7 : Int32)] (by decide) (List.forall_mem_cons.mpr ⟨hc3, List.forall_mem_cons.mpr ⟨hc5, List.forall_mem_cons.mpr ⟨hc7, List.forall_mem_cons.mpr ⟨hc9, List.forall_mem_cons.mpr ⟨hc11, List.forall_mem_cons.mpr ⟨hc13, List.forall_mem_cons.mpr ⟨hc15, List.forall_mem_cons.mpr ⟨hc17, fun _ h => absurd h List.not_mem_nil⟩⟩⟩⟩⟩⟩⟩⟩)) rfl ?_
                        refine w_blk bX11_hedge_168 [.ref 0, .int x1, .int x2] [.int x1, .ref 3, .ref 16] (sm_hp m) [] rfl (sm_on) ?_
                        replace hf := sm_bd hf
                        obtain ⟨r20, q19, hf⟩ := hf
                        refine w_callV [.ref 3, .int x1] [] (tX6_isFresh x1 m r20 q19) (cvX11_140 rfl) dX11_hedge_177 rfl rfl (by decide) (by decide) rfl (Nat.le_of_ble_eq_true rfl) ?_
                        show sm_W _ _ _ _ _ 180 [.ref 0, .int x1, .int x2] [.int r20] (sm_hp m)
                        refine w_if_eq (tgt := 187) dX11_hedge_180 rfl (fun hc => ?_) (fun hc => ?_)
                        · replace hf := sm_ift hc hf
                          refine w_blk bX11_hedge_187 [.ref 0, .int x1, .int x2] [.int (0 : Int32)] (sm_hp m) [] rfl (sm_on) ?_
                          obtain rfl := Option.some.inj hf
                          exact w_reti dX11_hedge_188 rfl rfl
                        · replace hf := sm_iff hc hf
                          refine w_blk bX11_hedge_183 [.ref 0, .int x1, .int x2] [.int (1 : Int32)] (sm_hp m) [] rfl (sm_on) ?_
                          refine w_goto (tgt := 188) dX11_hedge_184 rfl ?_
                          obtain rfl := Option.some.inj hf
                          exact w_reti dX11_hedge_188 rfl rfl
      · replace hf := sm_iff hc hf
        cases hf
set_option maxRecDepth 10000 in
theorem tX2_hasCorner {l : Launch} {al : Bool} (x1 : Int32) (m : sm_S) (r : Int32) (hf : fX2_hasCorner x1 m = some r) : sm_Rt l mX2_hasCorner 1 0 0 al al [.ref 3, .int x1] (sm_hp m) (some (.int r), sm_hp m) := by
  refine sm_Rt.ofW (L := [.ref 3, .int x1]) (by decide) (Nat.le_of_ble_eq_true rfl) rfl ?_
  unfold fX2_hasCorner at hf
  refine w_blk bX2_hasCorner_0 [.ref 3, .int x1] [.int x1] (sm_hp m) [] rfl (sm_on) ?_
  refine w_if_lt (tgt := 16) dX2_hasCorner_1 rfl (fun hc => ?_) (fun hc => ?_)
  · replace hf := sm_ift hc hf
    refine w_blk bX2_hasCorner_16 [.ref 3, .int x1] [.int (0 : Int32)] (sm_hp m) [] rfl (sm_on) ?_
    obtain rfl := Option.some.inj hf
    exact w_reti dX2_hasCorner_17 rfl sm_nb0
  · replace hf := sm_iff hc hf
    refine w_blk bX2_hasCorner_4 [.ref 3, .int x1] [.int (m.1 3 0), .int x1] (sm_hp m) [] rfl (sm_on) ?_
    refine w_icmp_ge (tgt := 16) dX2_hasCorner_9 rfl (fun hc => ?_) (fun hc => ?_)
    · replace hf := sm_ift hc hf
      refine w_blk bX2_hasCorner_16 [.ref 3, .int x1] [.int (0 : Int32)] (sm_hp m) [] rfl (sm_on) ?_
      obtain rfl := Option.some.inj hf
      exact w_reti dX2_hasCorner_17 rfl sm_nb0
    · replace hf := sm_iff hc hf
      refine w_blk bX2_hasCorner_12 [.ref 3, .int x1] [.int (1 : Int32)] (sm_hp m) [] rfl (sm_on) ?_
      refine w_goto (tgt := 17) dX2_hasCorner_13 rfl ?_
      obtain rfl := Option.some.inj hf
      exact w_reti dX2_hasCorner_17 rfl sm_nb1
set_option maxRecDepth 10000 in
theorem tX2_grassBetween {l : Launch} {al : Bool} (x1 : Int32) (x2 : Int32) (m : sm_S) (r : Int32) (hf : fX2_grassBetween x1 x2 m = some r) : sm_Rt l mX2_grassBetween 1 0 0 al al [.ref 3, .int x1, .int x2] (sm_hp m) (some (.int r), sm_hp m) := by
  refine sm_Rt.ofW (L := [.ref 3, .int x1, .int x2]) (by decide) (Nat.le_of_ble_eq_true rfl) rfl ?_
  unfold fX2_grassBetween at hf
  replace hf := sm_ck hf
  obtain ⟨q1, hf⟩ := hf
  replace hf := sm_ck hf
  obtain ⟨q2, hf⟩ := hf
  replace hf := sm_ck hf
  obtain ⟨q3, hf⟩ := hf
  replace hf := sm_ck hf
  obtain ⟨q4, hf⟩ := hf
  refine w_blk bX2_grassBetween_0 [.ref 3, .int x1, .int x2] [.int ((2 : Int32) * ((if 0 ≤ ((m.1 4 (x1).toNatClampNeg) - (m.1 4 (x2).toNatClampNeg)) then ((m.1 4 (x1).toNatClampNeg) - (m.1 4 (x2).toNatClampNeg)) else 0 - ((m.1 4 (x1).toNatClampNeg) - (m.1 4 (x2).toNatClampNeg))) + (if 0 ≤ ((m.1 5 (x1).toNatClampNeg) - (m.1 5 (x2).toNatClampNeg)) then ((m.1 5 (x1).toNatClampNeg) - (m.1 5 (x2).toNatClampNeg)) else 0 - ((m.1 5 (x1).toNatClampNeg) - (m.1 5 (x2).toNatClampNeg)))))] (sm_hp m) [(x1, 10), (x2, 10), (x1, 10), (x2, 10)] rfl (sm_oc q1 (sm_oc q2 (sm_oc q3 (sm_oc q4 (sm_on))))) ?_
  obtain rfl := Option.some.inj hf
  exact w_reti dX2_grassBetween_35 rfl rfl
set_option maxRecDepth 10000 in
theorem tX11_grass {l : Launch} {al : Bool} (x1 : Int32) (x2 : Int32) (m : sm_S) (r : Int32) (hf : fX11_grass x1 x2 m = some r) : sm_Rt l mX11_grass 2 0 0 al al [.ref 0, .int x1, .int x2] (sm_hp m) (some (.int r), sm_hp m) := by
  refine sm_Rt.ofW (L := [.ref 0, .int x1, .int x2]) (by decide) (Nat.le_of_ble_eq_true rfl) rfl ?_
  unfold fX11_grass at hf
  refine w_blk bX11_grass_0 [.ref 0, .int x1, .int x2] [.int x1, .ref 3] (sm_hp m) [] rfl (sm_on) ?_
  replace hf := sm_bd hf
  obtain ⟨r2, q1, hf⟩ := hf
  refine w_callV [.int x1] [] (tX2_hasCorner x1 m r2 q1) (cvX11_144 rfl) dX11_grass_5 rfl rfl (by decide) (by decide) rfl (Nat.le_of_ble_eq_true rfl) ?_
  show sm_W _ _ _ _ _ 8 [.ref 0, .int x1, .int x2] [.int r2] (sm_hp m)
  refine w_if_eq (tgt := 22) dX11_grass_8 rfl (fun hc => ?_) (fun hc => ?_)
  · replace hf := sm_ift hc hf
    refine w_blk bX11_grass_22 [.ref 0, .int x1, .int x2] [.int (-1 : Int32)] (sm_hp m) [] rfl (sm_on) ?_
    obtain rfl := Option.some.inj hf
    exact w_reti dX11_grass_23 rfl rfl
  · replace hf := sm_iff hc hf
    refine w_blk bX11_grass_11 [.ref 0, .int x1, .int x2] [.int x2, .ref 3] (sm_hp m) [] rfl (sm_on) ?_
    replace hf := sm_bd hf
    obtain ⟨r4, q3, hf⟩ := hf
    refine w_callV [.int x2] [] (tX2_hasCorner x2 m r4 q3) (cvX11_144 rfl) dX11_grass_16 rfl rfl (by decide) (by decide) rfl (Nat.le_of_ble_eq_true rfl) ?_
    show sm_W _ _ _ _ _ 19 [.ref 0, .int x1, .int x2] [.int r4] (sm_hp m)
    refine w_if_ne (tgt := 24) dX11_grass_19 rfl (fun hc => ?_) (fun hc => ?_)
    · replace hf := sm_iff hc hf
      refine w_blk bX11_grass_24 [.ref 0, .int x1, .int x2] [.int x2, .int x1, .ref 3] (sm_hp m) [] rfl (sm_on) ?_
      replace hf := sm_bd hf
      obtain ⟨r6, q5, hf⟩ := hf
      refine w_callV [.int x1, .int x2] [] (tX2_grassBetween x1 x2 m r6 q5) (cvX11_147 rfl) dX11_grass_30 rfl rfl (by decide) (by decide) rfl (Nat.le_of_ble_eq_true rfl) ?_
      show sm_W _ _ _ _ _ 33 [.ref 0, .int x1, .int x2] [.int r6] (sm_hp m)
      obtain rfl := Option.some.inj hf
      exact w_reti dX11_grass_33 rfl rfl
    · replace hf := sm_ift hc hf
      refine w_blk bX11_grass_22 [.ref 0, .int x1, .int x2] [.int (-1 : Int32)] (sm_hp m) [] rfl (sm_on) ?_
      obtain rfl := Option.some.inj hf
      exact w_reti dX11_grass_23 rfl rfl
set_option maxRecDepth 10000 in
theorem tX11_setDigit {l : Launch} {al : Bool} (x1 : Int32) (x2 : Int32) (m : sm_S) (r : Int32 × sm_S) (hf : fX11_setDigit x1 x2 m = some r) : sm_Rt l mX11_setDigit 2 0 0 al al [.ref 0, .ref 11, .int x1, .int x2] (sm_hp m) (some (.int r.1), sm_hp r.2) := by
  refine sm_Rt.ofW (L := [.ref 0, .ref 11, .int x1, .int x2, .retAddr 0]) (by decide) (Nat.le_of_ble_eq_true rfl) rfl ?_
  unfold fX11_setDigit at hf
  refine w_blk bX11_setDigit_0 [.ref 0, .ref 11, .int x1, .int x2, .retAddr 0] [.int x1, .ref 3] (sm_hp m) [] rfl (sm_on) ?_
  replace hf := sm_bd hf
  obtain ⟨r2, q1, hf⟩ := hf
  refine w_callV [.int x1] [] (tX2_hasHedge x1 m r2 q1) (cvX11_105 rfl) dX11_setDigit_5 rfl rfl (by decide) (by decide) rfl (Nat.le_of_ble_eq_true rfl) ?_
  show sm_W _ _ _ _ _ 8 [.ref 0, .ref 11, .int x1, .int x2, .retAddr 0] [.int r2] (sm_hp m)
  refine w_if_eq (tgt := 21) dX11_setDigit_8 rfl (fun hc => ?_) (fun hc => ?_)
  · replace hf := sm_ift hc hf
    refine w_blk bX11_setDigit_21 [.ref 0, .ref 11, .int x1, .int x2, .retAddr 0] [.int (-1 : Int32)] (sm_hp m) [] rfl (sm_on) ?_
    obtain rfl := Option.some.inj hf
    exact w_reti dX11_setDigit_22 rfl rfl
  · replace hf := sm_iff hc hf
    refine w_blk bX11_setDigit_11 [.ref 0, .ref 11, .int x1, .int x2, .retAddr 0] [.int x2] (sm_hp m) [] rfl (sm_on) ?_
    refine w_if_lt (tgt := 21) dX11_setDigit_12 rfl (fun hc => ?_) (fun hc => ?_)
    · replace hf := sm_ift hc hf
      refine w_blk bX11_setDigit_21 [.ref 0, .ref 11, .int x1, .int x2, .retAddr 0] [.int (-1 : Int32)] (sm_hp m) [] rfl (sm_on) ?_
      obtain rfl := Option.some.inj hf
      exact w_reti dX11_setDigit_22 rfl rfl
    · replace hf := sm_iff hc hf
      refine w_blk bX11_setDigit_15 [.ref 0, .ref 11, .int x1, .int x2, .retAddr 0] [.int (9 : Int32), .int x2] (sm_hp m) [] rfl (sm_on) ?_
      refine w_icmp_le (tgt := 23) dX11_setDigit_18 rfl (fun hc => ?_) (fun hc => ?_)
      · replace hf := sm_ift hc hf
        replace hf := sm_ck hf
        obtain ⟨q3, hf⟩ := hf
        replace hf := sm_ck hf
        obtain ⟨q4, hf⟩ := hf
        refine w_blk bX11_setDigit_23 [.ref 0, .ref 11, .int x1, .int x2, .int (m.1 11 (x1).toNatClampNeg)] [.int (m.1 11 (x1).toNatClampNeg)] (sm_hp (sm_w1 m 11 (x1).toNatClampNeg x2)) [(x1, 14), (x1, 14)] rfl (sm_oc q3 (sm_oc q4 (sm_on))) ?_
        obtain rfl := Option.some.inj hf
        exact w_reti dX11_setDigit_34 rfl rfl
      · replace hf := sm_iff hc hf
        refine w_blk bX11_setDigit_21 [.ref 0, .ref 11, .int x1, .int x2, .retAddr 0] [.int (-1 : Int32)] (sm_hp m) [] rfl (sm_on) ?_
        obtain rfl := Option.some.inj hf
        exact w_reti dX11_setDigit_22 rfl rfl
set_option maxRecDepth 10000 in
theorem tX11_setDigit_i1 {l : Launch} {al : Bool} (x1 : Int32) (x2 : Int32) (m : sm_S) (r : Int32 × sm_S) (hf : fX11_setDigit_i1 x1 x2 m = some r) : sm_Rt l mX11_setDigit 2 0 0 al al [.ref 0, .ref 12, .int x1, .int x2] (sm_hp m) (some (.int r.1), sm_hp r.2) := by
  refine sm_Rt.ofW (L := [.ref 0, .ref 12, .int x1, .int x2, .retAddr 0]) (by decide) (Nat.le_of_ble_eq_true rfl) rfl ?_
  unfold fX11_setDigit_i1 at hf
  refine w_blk bX11_setDigit_0 [.ref 0, .ref 12, .int x1, .int x2, .retAddr 0] [.int x1, .ref 3] (sm_hp m) [] rfl (sm_on) ?_
  replace hf := sm_bd hf
  obtain ⟨r2, q1, hf⟩ := hf
  refine w_callV [.int x1] [] (tX2_hasHedge x1 m r2 q1) (cvX11_105 rfl) dX11_setDigit_5 rfl rfl (by decide) (by decide) rfl (Nat.le_of_ble_eq_true rfl) ?_
  show sm_W _ _ _ _ _ 8 [.ref 0, .ref 12, .int x1, .int x2, .retAddr 0] [.int r2] (sm_hp m)
  refine w_if_eq (tgt := 21) dX11_setDigit_8 rfl (fun hc => ?_) (fun hc => ?_)
  · replace hf := sm_ift hc hf
    refine w_blk bX11_setDigit_21 [.ref 0, .ref 12, .int x1, .int x2, .retAddr 0] [.int (-1 : Int32)] (sm_hp m) [] rfl (sm_on) ?_
    obtain rfl := Option.some.inj hf
    exact w_reti dX11_setDigit_22 rfl rfl
  · replace hf := sm_iff hc hf
    refine w_blk bX11_setDigit_11 [.ref 0, .ref 12, .int x1, .int x2, .retAddr 0] [.int x2] (sm_hp m) [] rfl (sm_on) ?_
    refine w_if_lt (tgt := 21) dX11_setDigit_12 rfl (fun hc => ?_) (fun hc => ?_)
    · replace hf := sm_ift hc hf
      refine w_blk bX11_setDigit_21 [.ref 0, .ref 12, .int x1, .int x2, .retAddr 0] [.int (-1 : Int32)] (sm_hp m) [] rfl (sm_on) ?_
      obtain rfl := Option.some.inj hf
      exact w_reti dX11_setDigit_22 rfl rfl
    · replace hf := sm_iff hc hf
      refine w_blk bX11_setDigit_15 [.ref 0, .ref 12, .int x1, .int x2, .retAddr 0] [.int (9 : Int32), .int x2] (sm_hp m) [] rfl (sm_on) ?_
      refine w_icmp_le (tgt := 23) dX11_setDigit_18 rfl (fun hc => ?_) (fun hc => ?_)
      · replace hf := sm_ift hc hf
        replace hf := sm_ck hf
        obtain ⟨q3, hf⟩ := hf
        replace hf := sm_ck hf
        obtain ⟨q4, hf⟩ := hf
        refine w_blk bX11_setDigit_23 [.ref 0, .ref 12, .int x1, .int x2, .int (m.1 12 (x1).toNatClampNeg)] [.int (m.1 12 (x1).toNatClampNeg)] (sm_hp (sm_w1 m 12 (x1).toNatClampNeg x2)) [(x1, 14), (x1, 14)] rfl (sm_oc q3 (sm_oc q4 (sm_on))) ?_
        obtain rfl := Option.some.inj hf
        exact w_reti dX11_setDigit_34 rfl rfl
      · replace hf := sm_iff hc hf
        refine w_blk bX11_setDigit_21 [.ref 0, .ref 12, .int x1, .int x2, .retAddr 0] [.int (-1 : Int32)] (sm_hp m) [] rfl (sm_on) ?_
        obtain rfl := Option.some.inj hf
        exact w_reti dX11_setDigit_22 rfl rfl
set_option maxRecDepth 10000 in
theorem tX11_setNights {l : Launch} {al : Bool} (x1 : Int32) (m : sm_S) (r : Int32 × sm_S) (hf : fX11_setNights x1 m = some r) : sm_Rt l mX11_setNights 1 0 0 al al [.ref 0, .int x1] (sm_hp m) (some (.int r.1), sm_hp r.2) := by
  refine sm_Rt.ofW (L := [.ref 0, .int x1, .retAddr 0]) (by decide) (Nat.le_of_ble_eq_true rfl) rfl ?_
  unfold fX11_setNights at hf
  refine w_blk bX11_setNights_0 [.ref 0, .int x1, .retAddr 0] [.int x1] (sm_hp m) [] rfl (sm_on) ?_
  refine w_if_lt (tgt := 10) dX11_setNights_1 rfl (fun hc => ?_) (fun hc => ?_)
  · replace hf := sm_ift hc hf
    refine w_blk bX11_setNights_10 [.ref 0, .int x1, .retAddr 0] [.int (-1 : Int32)] (sm_hp m) [] rfl (sm_on) ?_
    obtain rfl := Option.some.inj hf
    exact w_reti dX11_setNights_11 rfl rfl
  · replace hf := sm_iff hc hf
    refine w_blk bX11_setNights_4 [.ref 0, .int x1, .retAddr 0] [.int (99 : Int32), .int x1] (sm_hp m) [] rfl (sm_on) ?_
    refine w_icmp_le (tgt := 12) dX11_setNights_7 rfl (fun hc => ?_) (fun hc => ?_)
    · replace hf := sm_ift hc hf
      refine w_blk bX11_setNights_12 [.ref 0, .int x1, .int (m.1 3 2)] [.int (m.1 3 2)] (sm_hp (sm_w1 m 3 2 x1)) [] rfl (sm_on) ?_
      obtain rfl := Option.some.inj hf
      exact w_reti dX11_setNights_29 rfl rfl
    · replace hf := sm_iff hc hf
      refine w_blk bX11_setNights_10 [.ref 0, .int x1, .retAddr 0] [.int (-1 : Int32)] (sm_hp m) [] rfl (sm_on) ?_
      obtain rfl := Option.some.inj hf
      exact w_reti dX11_setNights_11 rfl rfl
set_option maxRecDepth 10000 in
theorem tX11_setFrost {l : Launch} {al : Bool} (x1 : Int32) (m : sm_S) (r : Int32 × sm_S) (hf : fX11_setFrost x1 m = some r) : sm_Rt l mX11_setFrost 1 0 0 al al [.ref 0, .int x1] (sm_hp m) (some (.int r.1), sm_hp r.2) := by
  refine sm_Rt.ofW (L := [.ref 0, .int x1, .retAddr 0]) (by decide) (Nat.le_of_ble_eq_true rfl) rfl ?_
  unfold fX11_setFrost at hf
  refine w_blk bX11_setFrost_0 [.ref 0, .int x1, .retAddr 0] [.int x1] (sm_hp m) [] rfl (sm_on) ?_
  refine w_if_lt (tgt := 11) dX11_setFrost_1 rfl (fun hc => ?_) (fun hc => ?_)
  · replace hf := sm_ift hc hf
    refine w_blk bX11_setFrost_11 [.ref 0, .int x1, .retAddr 0] [.int (-1 : Int32)] (sm_hp m) [] rfl (sm_on) ?_
    obtain rfl := Option.some.inj hf
    exact w_reti dX11_setFrost_12 rfl rfl
  · replace hf := sm_iff hc hf
    refine w_blk bX11_setFrost_4 [.ref 0, .int x1, .retAddr 0] [.int (9999 : Int32), .int x1] (sm_hp m) [] rfl (sm_on) ?_
    refine w_icmp_le (tgt := 13) dX11_setFrost_8 rfl (fun hc => ?_) (fun hc => ?_)
    · replace hf := sm_ift hc hf
      refine w_blk bX11_setFrost_13 [.ref 0, .int x1, .int (m.1 3 3)] [.int (m.1 3 3)] (sm_hp (sm_w1 m 3 3 x1)) [] rfl (sm_on) ?_
      obtain rfl := Option.some.inj hf
      exact w_reti dX11_setFrost_30 rfl rfl
    · replace hf := sm_iff hc hf
      refine w_blk bX11_setFrost_11 [.ref 0, .int x1, .retAddr 0] [.int (-1 : Int32)] (sm_hp m) [] rfl (sm_on) ?_
      obtain rfl := Option.some.inj hf
      exact w_reti dX11_setFrost_12 rfl rfl
set_option maxRecDepth 10000 in
theorem tX11_set {l : Launch} {al : Bool} (x1 : Int32) (x2 : Int32) (x3 : Int32) (m : sm_S) (r : Int32 × sm_S) (hf : fX11_set x1 x2 x3 m = some r) : sm_Rt l mX11_set 3 0 0 al al [.ref 0, .int x1, .int x2, .int x3] (sm_hp m) (some (.int r.1), sm_hp r.2) := by
  refine sm_Rt.ofW (L := [.ref 0, .int x1, .int x2, .int x3]) (by decide) (Nat.le_of_ble_eq_true rfl) rfl ?_
  unfold fX11_set at hf
  refine w_blk bX11_set_0 [.ref 0, .int x1, .int x2, .int x3] [.int x1] (sm_hp m) [] rfl (sm_on) ?_
  by_cases hc1 : x1 = (0 : Int32)
  · replace hf := sm_ift hc1 hf
    refine w_tableIn (off := 31) (tgt := 32) dX11_set_1 (by rw [hc1]; decide) (by rw [hc1]; decide) (by rw [hc1]; rfl) rfl ?_
    refine w_blk bX11_set_32 [.ref 0, .int x1, .int x2, .int x3] [.int x3, .int x2, .ref 11, .ref 0] (sm_hp m) [] rfl (sm_on) ?_
    replace hf := sm_bd hf
    obtain ⟨r3, q2, hf⟩ := hf
    refine w_callV [.ref 11, .int x2, .int x3] [] (tX11_setDigit x2 x3 m r3 q2) (cvX11_151 rfl) dX11_set_42 rfl rfl (by decide) (by decide) rfl (Nat.le_of_ble_eq_true rfl) ?_
    show sm_W _ _ _ _ _ 45 [.ref 0, .int x1, .int x2, .int x3] [.int r3.1] (sm_hp r3.2)
    obtain rfl := Option.some.inj hf
    exact w_reti dX11_set_45 rfl rfl
  · replace hf := sm_iff hc1 hf
    by_cases hc4 : x1 = (1 : Int32)
    · replace hf := sm_ift hc4 hf
      refine w_tableIn (off := 45) (tgt := 46) dX11_set_1 (by rw [hc4]; decide) (by rw [hc4]; decide) (by rw [hc4]; rfl) rfl ?_
      refine w_blk bX11_set_46 [.ref 0, .int x1, .int x2, .int x3] [.int x3, .int x2, .ref 12, .ref 0] (sm_hp m) [] rfl (sm_on) ?_
      replace hf := sm_bd hf
      obtain ⟨r6, q5, hf⟩ := hf
      refine w_callV [.ref 12, .int x2, .int x3] [] (tX11_setDigit_i1 x2 x3 m r6 q5) (cvX11_151 rfl) dX11_set_56 rfl rfl (by decide) (by decide) rfl (Nat.le_of_ble_eq_true rfl) ?_
      show sm_W _ _ _ _ _ 59 [.ref 0, .int x1, .int x2, .int x3] [.int r6.1] (sm_hp r6.2)
      obtain rfl := Option.some.inj hf
      exact w_reti dX11_set_59 rfl rfl
    · replace hf := sm_iff hc4 hf
      by_cases hc7 : x1 = (2 : Int32)
      · replace hf := sm_ift hc7 hf
        refine w_tableIn (off := 59) (tgt := 60) dX11_set_1 (by rw [hc7]; decide) (by rw [hc7]; decide) (by rw [hc7]; rfl) rfl ?_
        refine w_blk bX11_set_60 [.ref 0, .int x1, .int x2, .int x3] [.int x3, .ref 0] (sm_hp m) [] rfl (sm_on) ?_
        replace hf := sm_bd hf
        obtain ⟨r9, q8, hf⟩ := hf
        refine w_callV [.int x3] [] (tX11_setNights x3 m r9 q8) (cvX11_155 rfl) dX11_set_62 rfl rfl (by decide) (by decide) rfl (Nat.le_of_ble_eq_true rfl) ?_
        show sm_W _ _ _ _ _ 65 [.ref 0, .int x1, .int x2, .int x3] [.int r9.1] (sm_hp r9.2)
        obtain rfl := Option.some.inj hf
        exact w_reti dX11_set_65 rfl rfl
      · replace hf := sm_iff hc7 hf
        by_cases hc10 : x1 = (3 : Int32)
        · replace hf := sm_ift hc10 hf
          refine w_tableIn (off := 65) (tgt := 66) dX11_set_1 (by rw [hc10]; decide) (by rw [hc10]; decide) (by rw [hc10]; rfl) rfl ?_
          refine w_blk bX11_set_66 [.ref 0, .int x1, .int x2, .int x3] [.int x3, .ref 0] (sm_hp m) [] rfl (sm_on) ?_
          replace hf := sm_bd hf
          obtain ⟨r12, q11, hf⟩ := hf
          refine w_callV [.int x3] [] (tX11_setFrost x3 m r12 q11) (cvX11_159 rfl) dX11_set_68 rfl rfl (by decide) (by decide) rfl (Nat.le_of_ble_eq_true rfl) ?_
          show sm_W _ _ _ _ _ 71 [.ref 0, .int x1, .int x2, .int x3] [.int r12.1] (sm_hp r12.2)
          obtain rfl := Option.some.inj hf
          exact w_reti dX11_set_71 rfl rfl
        · replace hf := sm_iff hc10 hf
          refine w_tableOut (tgt := 72) dX11_set_1 (sm_tab (n := 3) [(0 : Int32), (1 : Int32), (2 : Int32), (3 : Int32)] (by decide) (List.forall_mem_cons.mpr ⟨hc1, List.forall_mem_cons.mpr ⟨hc4, List.forall_mem_cons.mpr ⟨hc7, List.forall_mem_cons.mpr ⟨hc10, fun _ h => absurd h List.not_mem_nil⟩⟩⟩⟩)) rfl ?_
          refine w_blk bX11_set_72 [.ref 0, .int x1, .int x2, .int x3] [.int (-1 : Int32)] (sm_hp m) [] rfl (sm_on) ?_
          obtain rfl := Option.some.inj hf
          exact w_reti dX11_set_73 rfl rfl
set_option maxRecDepth 10000 in
theorem tX11_sheetEntry {l : Launch} {al : Bool} (x1 : Int32) (x2 : Int32) (m : sm_S) (r : Int32) (hf : fX11_sheetEntry x1 x2 m = some r) : sm_Rt l mX11_sheetEntry 1 0 0 al al [.int x1, .int x2] (sm_hp m) (some (.int r), sm_hp m) := by
  refine sm_Rt.ofW (L := [.int x1, .int x2, .retAddr 0]) (by decide) (Nat.le_of_ble_eq_true rfl) rfl ?_
  unfold fX11_sheetEntry at hf
  refine w_blk bX11_sheetEntry_0 [.int x1, .int x2, .retAddr 0] [.int x1] (sm_hp m) [] rfl (sm_on) ?_
  refine w_if_ne (tgt := 9) dX11_sheetEntry_1 rfl (fun hc => ?_) (fun hc => ?_)
  · replace hf := sm_iff hc hf
    refine w_blk bX11_sheetEntry_9 [.int x1, .int x2, .retAddr 0] [.int (1 : Int32), .int x1] (sm_hp m) [] rfl (sm_on) ?_
    refine w_icmp_ne (tgt := 19) dX11_sheetEntry_11 rfl (fun hc => ?_) (fun hc => ?_)
    · replace hf := sm_iff hc hf
      refine w_blk bX11_sheetEntry_19 [.int x1, .int x2, .retAddr 0] [.int x2] (sm_hp m) [] rfl (sm_on) ?_
      refine w_blk bX11_sheetEntry_20 [.int x1, .int x2, .int x2] [.int (if (1 : Int32) < (if x2 < (20 : Int32) then x2 else (20 : Int32)) then (if x2 < (20 : Int32) then x2 else (20 : Int32)) else (1 : Int32))] (sm_hp m) [] rfl (sm_on) ?_
      obtain rfl := Option.some.inj hf
      exact w_reti dX11_sheetEntry_31 rfl rfl
    · replace hf := sm_ift hc hf
      refine w_blk bX11_sheetEntry_14 [.int x1, .int x2, .retAddr 0] [.int (x2).toInt16.toInt32] (sm_hp m) [] rfl (sm_on) ?_
      refine w_goto (tgt := 20) dX11_sheetEntry_16 rfl ?_
      refine w_blk bX11_sheetEntry_20 [.int x1, .int x2, .int (x2).toInt16.toInt32] [.int (if (1 : Int32) < (if (x2).toInt16.toInt32 < (20 : Int32) then (x2).toInt16.toInt32 else (20 : Int32)) then (if (x2).toInt16.toInt32 < (20 : Int32) then (x2).toInt16.toInt32 else (20 : Int32)) else (1 : Int32))] (sm_hp m) [] rfl (sm_on) ?_
      obtain rfl := Option.some.inj hf
      exact w_reti dX11_sheetEntry_31 rfl rfl
  · replace hf := sm_ift hc hf
    refine w_blk bX11_sheetEntry_4 [.int x1, .int x2, .retAddr 0] [.int (x2).toInt8.toInt32] (sm_hp m) [] rfl (sm_on) ?_
    refine w_goto (tgt := 20) dX11_sheetEntry_6 rfl ?_
    refine w_blk bX11_sheetEntry_20 [.int x1, .int x2, .int (x2).toInt8.toInt32] [.int (if (1 : Int32) < (if (x2).toInt8.toInt32 < (20 : Int32) then (x2).toInt8.toInt32 else (20 : Int32)) then (if (x2).toInt8.toInt32 < (20 : Int32) then (x2).toInt8.toInt32 else (20 : Int32)) else (1 : Int32))] (sm_hp m) [] rfl (sm_on) ?_
    obtain rfl := Option.some.inj hf
    exact w_reti dX11_sheetEntry_31 rfl rfl
set_option maxRecDepth 10000 in
theorem tX11_sheet_47 {l : Launch} {al : Bool} : ∀ (n : Nat) (v1 : Int32) (v2 : Int32) (v3 : Int32) (v4 : Int32) (v5 : Int32) (v6 : Int32) (v7 : Int32) (m : sm_S) (r : Int32 × sm_S), fX11_sheet_47 n v1 v2 v3 v4 v5 v6 v7 m = some r → sm_W l mX11_sheet 2 al (some (.int r.1), sm_hp r.2) 47 [.ref 0, .int v1, .int v2, .int v3, .int v4, .int v5, .int v6, .int v7, .retAddr 0] [] (sm_hp m) := by
  intro n
  induction n with
  | zero =>
    intro v1 v2 v3 v4 v5 v6 v7 m r hf
    unfold fX11_sheet_47 at hf
    cases hf
  | succ n ih =>
    intro v1 v2 v3 v4 v5 v6 v7 m r hf
    unfold fX11_sheet_47 at hf
    refine w_blk bX11_sheet_47 [.ref 0, .int v1, .int v2, .int v3, .int v4, .int v5, .int v6, .int v7, .retAddr 0] [.int (m.1 3 1), .int v7] (sm_hp m) [] rfl (sm_on) ?_
    refine w_icmp_ge (tgt := 128) dX11_sheet_56 rfl (fun hc => ?_) (fun hc => ?_)
    · replace hf := sm_ift hc hf
      refine w_blk bX11_sheet_128 [.ref 0, .int v1, .int v2, .int v3, .int v4, .int v5, .int v6, .int v7, .retAddr 0] [.int v5] (sm_hp m) [] rfl (sm_on) ?_
      refine w_if_eq (tgt := 138) dX11_sheet_130 rfl (fun hc => ?_) (fun hc => ?_)
      · replace hf := sm_ift hc hf
        refine w_blk bX11_sheet_138 [.ref 0, .int v1, .int v2, .int v3, .int v4, .int v5, .int v6, .int v7, .retAddr 0] [.int v6] (sm_hp m) [] rfl (sm_on) ?_
        obtain rfl := Option.some.inj hf
        exact w_reti dX11_sheet_140 rfl rfl
      · replace hf := sm_iff hc hf
        refine w_blk bX11_sheet_133 [.ref 0, .int v1, .int v2, .int v3, .int v4, .int v5, .int v6, .int v7, .retAddr 0] [.int (-3 : Int32)] (sm_hp m) [] rfl (sm_on) ?_
        refine w_goto (tgt := 140) dX11_sheet_135 rfl ?_
        obtain rfl := Option.some.inj hf
        exact w_reti dX11_sheet_140 rfl rfl
    · replace hf := sm_iff hc hf
      refine w_blk bX11_sheet_59 [.ref 0, .int v1, .int v2, .int v3, .int v4, .int v5, .int v6, .int v7, .retAddr 0] [.int v5] (sm_hp m) [] rfl (sm_on) ?_
      refine w_if_ne (tgt := 74) dX11_sheet_61 rfl (fun hc => ?_) (fun hc => ?_)
      · replace hf := sm_iff hc hf
        refine w_blk bX11_sheet_74 [.ref 0, .int v1, .int v2, .int v3, .int v4, .int v5, .int v6, .int v7, .retAddr 0] [.int (0 : Int32)] (sm_hp m) [] rfl (sm_on) ?_
        refine w_blk bX11_sheet_75 [.ref 0, .int v1, .int v2, .int v3, .int v4, .int v5, .int v6, .int v7, .int (0 : Int32)] [.int (0 : Int32), .int v7, .ref 8] (sm_hp m) [] rfl (sm_on) ?_
        refine w_if_eq (tgt := 105) dX11_sheet_88 rfl (fun _ => ?_) (fun hc => absurd hc (by decide))
        refine w_blk bX11_sheet_105 [.ref 0, .int v1, .int v2, .int v3, .int v4, .int v5, .int v6, .int v7, .int (0 : Int32)] [.int (1 : Int32), .int v7, .ref 8] (sm_hp m) [] rfl (sm_on) ?_
        replace hf := sm_ck hf
        obtain ⟨q1, hf⟩ := hf
        replace hf := sm_ck hf
        obtain ⟨q2, hf⟩ := hf
        refine w_blk bX11_sheet_106 [.ref 0, .int v1, .int v2, .int v3, .int v4, .int v5, .int (v6 + ((sm_w1 m 8 (v7).toNatClampNeg (1 : Int32)).1 8 (v7).toNatClampNeg)), .int (v7 + (1 : Int32)), .int (0 : Int32)] [] (sm_hp (sm_w1 m 8 (v7).toNatClampNeg (1 : Int32))) [(v7, 14), (v7, 14)] rfl (sm_oc q1 (sm_oc q2 (sm_on))) ?_
        refine w_goto (tgt := 47) dX11_sheet_125 rfl ?_
        refine w_wk [true, true, true, true, true, true, true, true, false] ?_
        exact ih v1 v2 v3 v4 v5 (v6 + ((sm_w1 m 8 (v7).toNatClampNeg (1 : Int32)).1 8 (v7).toNatClampNeg)) (v7 + (1 : Int32)) (sm_w1 m 8 (v7).toNatClampNeg (1 : Int32)) r hf
      · replace hf := sm_ift hc hf
        refine w_blk bX11_sheet_64 [.ref 0, .int v1, .int v2, .int v3, .int v4, .int v5, .int v6, .int v7, .retAddr 0] [.int v2, .int v7] (sm_hp m) [] rfl (sm_on) ?_
        refine w_icmp_ge (tgt := 74) dX11_sheet_67 rfl (fun hc => ?_) (fun hc => ?_)
        · replace hf := sm_ift hc hf
          refine w_blk bX11_sheet_74 [.ref 0, .int v1, .int v2, .int v3, .int v4, .int v5, .int v6, .int v7, .retAddr 0] [.int (0 : Int32)] (sm_hp m) [] rfl (sm_on) ?_
          refine w_blk bX11_sheet_75 [.ref 0, .int v1, .int v2, .int v3, .int v4, .int v5, .int v6, .int v7, .int (0 : Int32)] [.int (0 : Int32), .int v7, .ref 8] (sm_hp m) [] rfl (sm_on) ?_
          refine w_if_eq (tgt := 105) dX11_sheet_88 rfl (fun _ => ?_) (fun hc => absurd hc (by decide))
          refine w_blk bX11_sheet_105 [.ref 0, .int v1, .int v2, .int v3, .int v4, .int v5, .int v6, .int v7, .int (0 : Int32)] [.int (1 : Int32), .int v7, .ref 8] (sm_hp m) [] rfl (sm_on) ?_
          replace hf := sm_ck hf
          obtain ⟨q3, hf⟩ := hf
          replace hf := sm_ck hf
          obtain ⟨q4, hf⟩ := hf
          refine w_blk bX11_sheet_106 [.ref 0, .int v1, .int v2, .int v3, .int v4, .int v5, .int (v6 + ((sm_w1 m 8 (v7).toNatClampNeg (1 : Int32)).1 8 (v7).toNatClampNeg)), .int (v7 + (1 : Int32)), .int (0 : Int32)] [] (sm_hp (sm_w1 m 8 (v7).toNatClampNeg (1 : Int32))) [(v7, 14), (v7, 14)] rfl (sm_oc q3 (sm_oc q4 (sm_on))) ?_
          refine w_goto (tgt := 47) dX11_sheet_125 rfl ?_
          refine w_wk [true, true, true, true, true, true, true, true, false] ?_
          exact ih v1 v2 v3 v4 v5 (v6 + ((sm_w1 m 8 (v7).toNatClampNeg (1 : Int32)).1 8 (v7).toNatClampNeg)) (v7 + (1 : Int32)) (sm_w1 m 8 (v7).toNatClampNeg (1 : Int32)) r hf
        · replace hf := sm_iff hc hf
          refine w_blk bX11_sheet_70 [.ref 0, .int v1, .int v2, .int v3, .int v4, .int v5, .int v6, .int v7, .retAddr 0] [.int (1 : Int32)] (sm_hp m) [] rfl (sm_on) ?_
          refine w_goto (tgt := 75) dX11_sheet_71 rfl ?_
          refine w_blk bX11_sheet_75 [.ref 0, .int v1, .int v2, .int v3, .int v4, .int v5, .int v6, .int v7, .int (1 : Int32)] [.int (1 : Int32), .int v7, .ref 8] (sm_hp m) [] rfl (sm_on) ?_
          refine w_if_eq (tgt := 105) dX11_sheet_88 rfl (fun hc => absurd hc (by decide)) (fun _ => ?_)
          refine w_blk bX11_sheet_91 [.ref 0, .int v1, .int v2, .int v3, .int v4, .int v5, .int v6, .int v7, .int (1 : Int32)] [.int (v3 + (v7 * v4)), .int v1, .int v7, .ref 8] (sm_hp m) [] rfl (sm_on) ?_
          replace hf := sm_bd hf
          obtain ⟨r6, q5, hf⟩ := hf
          refine w_callS [.int v1, .int (v3 + (v7 * v4))] [.int v7, .ref 8] (tX11_sheetEntry v1 (v3 + (v7 * v4)) m r6 q5) (csX11_171 rfl) dX11_sheet_99 rfl rfl (by decide) (by decide) (Nat.le_of_ble_eq_true rfl) ?_
          show sm_W _ _ _ _ _ 102 [.ref 0, .int v1, .int v2, .int v3, .int v4, .int v5, .int v6, .int v7, .int (1 : Int32)] [.int r6, .int v7, .ref 8] (sm_hp m)
          refine w_goto (tgt := 106) dX11_sheet_102 rfl ?_
          replace hf := sm_ck hf
          obtain ⟨q7, hf⟩ := hf
          replace hf := sm_ck hf
          obtain ⟨q8, hf⟩ := hf
          refine w_blk bX11_sheet_106 [.ref 0, .int v1, .int v2, .int v3, .int v4, .int v5, .int (v6 + ((sm_w1 m 8 (v7).toNatClampNeg r6).1 8 (v7).toNatClampNeg)), .int (v7 + (1 : Int32)), .int (1 : Int32)] [] (sm_hp (sm_w1 m 8 (v7).toNatClampNeg r6)) [(v7, 14), (v7, 14)] rfl (sm_oc q7 (sm_oc q8 (sm_on))) ?_
          refine w_goto (tgt := 47) dX11_sheet_125 rfl ?_
          refine w_wk [true, true, true, true, true, true, true, true, false] ?_
          exact ih v1 v2 v3 v4 v5 (v6 + ((sm_w1 m 8 (v7).toNatClampNeg r6).1 8 (v7).toNatClampNeg)) (v7 + (1 : Int32)) (sm_w1 m 8 (v7).toNatClampNeg r6) r hf
set_option maxRecDepth 10000 in
theorem tX11_sheet {l : Launch} {al : Bool} (x1 : Int32) (x2 : Int32) (x3 : Int32) (x4 : Int32) (m : sm_S) (r : Int32 × sm_S) (hf : fX11_sheet x1 x2 x3 x4 m = some r) : sm_Rt l mX11_sheet 2 0 0 al al [.ref 0, .int x1, .int x2, .int x3, .int x4] (sm_hp m) (some (.int r.1), sm_hp r.2) := by
  refine sm_Rt.ofW (L := [.ref 0, .int x1, .int x2, .int x3, .int x4, .retAddr 0, .retAddr 0, .retAddr 0, .retAddr 0]) (by decide) (Nat.le_of_ble_eq_true rfl) rfl ?_
  unfold fX11_sheet at hf
  refine w_blk bX11_sheet_0 [.ref 0, .int x1, .int x2, .int x3, .int x4, .retAddr 0, .retAddr 0, .retAddr 0, .retAddr 0] [.int x1] (sm_hp m) [] rfl (sm_on) ?_
  refine w_if_lt (tgt := 15) dX11_sheet_1 rfl (fun hc => ?_) (fun hc => ?_)
  · replace hf := sm_ift hc hf
    refine w_blk bX11_sheet_15 [.ref 0, .int x1, .int x2, .int x3, .int x4, .retAddr 0, .retAddr 0, .retAddr 0, .retAddr 0] [.int (-1 : Int32)] (sm_hp m) [] rfl (sm_on) ?_
    obtain rfl := Option.some.inj hf
    exact w_reti dX11_sheet_16 rfl rfl
  · replace hf := sm_iff hc hf
    refine w_blk bX11_sheet_4 [.ref 0, .int x1, .int x2, .int x3, .int x4, .retAddr 0, .retAddr 0, .retAddr 0, .retAddr 0] [.int (3 : Int32), .int x1] (sm_hp m) [] rfl (sm_on) ?_
    refine w_icmp_gt (tgt := 15) dX11_sheet_6 rfl (fun hc => ?_) (fun hc => ?_)
    · replace hf := sm_ift hc hf
      refine w_blk bX11_sheet_15 [.ref 0, .int x1, .int x2, .int x3, .int x4, .retAddr 0, .retAddr 0, .retAddr 0, .retAddr 0] [.int (-1 : Int32)] (sm_hp m) [] rfl (sm_on) ?_
      obtain rfl := Option.some.inj hf
      exact w_reti dX11_sheet_16 rfl rfl
    · replace hf := sm_iff hc hf
      refine w_blk bX11_sheet_9 [.ref 0, .int x1, .int x2, .int x3, .int x4, .retAddr 0, .retAddr 0, .retAddr 0, .retAddr 0] [.int (14 : Int32), .int x2] (sm_hp m) [] rfl (sm_on) ?_
      refine w_icmp_le (tgt := 17) dX11_sheet_12 rfl (fun hc => ?_) (fun hc => ?_)
      · replace hf := sm_ift hc hf
        refine w_blk bX11_sheet_17 [.ref 0, .int x1, .int x2, .int x3, .int x4, .retAddr 0, .retAddr 0, .retAddr 0, .retAddr 0] [.int (3 : Int32), .int x1] (sm_hp m) [] rfl (sm_on) ?_
        refine w_icmp_ne (tgt := 26) dX11_sheet_19 rfl (fun hc => ?_) (fun hc => ?_)
        · replace hf := sm_iff hc hf
          refine w_blk bX11_sheet_26 [.ref 0, .int x1, .int x2, .int x3, .int x4, .retAddr 0, .retAddr 0, .retAddr 0, .retAddr 0] [.int (0 : Int32)] (sm_hp m) [] rfl (sm_on) ?_
          refine w_blk bX11_sheet_27 [.ref 0, .int x1, .int x2, .int x3, .int x4, .int (0 : Int32), .retAddr 0, .retAddr 0, .retAddr 0] [.int (0 : Int32)] (sm_hp m) [] rfl (sm_on) ?_
          refine w_if_ne (tgt := 41) dX11_sheet_31 rfl (fun hc => absurd hc (by decide)) (fun _ => ?_)
          refine w_blk bX11_sheet_34 [.ref 0, .int x1, .int x2, .int x3, .int x4, .int (0 : Int32), .retAddr 0, .retAddr 0, .retAddr 0] [.int x2] (sm_hp m) [] rfl (sm_on) ?_
          refine w_if_ge (tgt := 41) dX11_sheet_35 rfl (fun hc => ?_) (fun hc => ?_)
          · replace hf := sm_ift hc hf
            refine w_blk bX11_sheet_41 [.ref 0, .int x1, .int x2, .int x3, .int x4, .int (0 : Int32), .int (0 : Int32), .int (0 : Int32), .retAddr 0] [] (sm_hp m) [] rfl (sm_on) ?_
            exact tX11_sheet_47 sm_fu x1 x2 x3 x4 (0 : Int32) (0 : Int32) (0 : Int32) m r hf
          · replace hf := sm_iff hc hf
            refine w_blk bX11_sheet_38 [.ref 0, .int x1, .int x2, .int x3, .int x4, .int (0 : Int32), .retAddr 0, .retAddr 0, .retAddr 0] [.int (-2 : Int32)] (sm_hp m) [] rfl (sm_on) ?_
            obtain rfl := Option.some.inj hf
            exact w_reti dX11_sheet_40 rfl rfl
        · replace hf := sm_ift hc hf
          refine w_blk bX11_sheet_22 [.ref 0, .int x1, .int x2, .int x3, .int x4, .retAddr 0, .retAddr 0, .retAddr 0, .retAddr 0] [.int (1 : Int32)] (sm_hp m) [] rfl (sm_on) ?_
          refine w_goto (tgt := 27) dX11_sheet_23 rfl ?_
          refine w_blk bX11_sheet_27 [.ref 0, .int x1, .int x2, .int x3, .int x4, .int (1 : Int32), .retAddr 0, .retAddr 0, .retAddr 0] [.int (1 : Int32)] (sm_hp m) [] rfl (sm_on) ?_
          refine w_if_ne (tgt := 41) dX11_sheet_31 rfl (fun _ => ?_) (fun hc => absurd hc (by decide))
          refine w_blk bX11_sheet_41 [.ref 0, .int x1, .int x2, .int x3, .int x4, .int (1 : Int32), .int (0 : Int32), .int (0 : Int32), .retAddr 0] [] (sm_hp m) [] rfl (sm_on) ?_
          exact tX11_sheet_47 sm_fu x1 x2 x3 x4 (1 : Int32) (0 : Int32) (0 : Int32) m r hf
      · replace hf := sm_iff hc hf
        refine w_blk bX11_sheet_15 [.ref 0, .int x1, .int x2, .int x3, .int x4, .retAddr 0, .retAddr 0, .retAddr 0, .retAddr 0] [.int (-1 : Int32)] (sm_hp m) [] rfl (sm_on) ?_
        obtain rfl := Option.some.inj hf
        exact w_reti dX11_sheet_16 rfl rfl
set_option maxRecDepth 10000 in
theorem tX2_touches {l : Launch} {al : Bool} (x1 : Int32) (x2 : Int32) (m : sm_S) (r : Int32) (hf : fX2_touches x1 x2 m = some r) : sm_Rt l mX2_touches 1 0 0 al al [.ref 3, .int x1, .int x2] (sm_hp m) (some (.int r), sm_hp m) := by
  refine sm_Rt.ofW (L := [.ref 3, .int x1, .int x2]) (by decide) (Nat.le_of_ble_eq_true rfl) rfl ?_
  unfold fX2_touches at hf
  replace hf := sm_ck hf
  obtain ⟨q1, hf⟩ := hf
  refine w_blk bX2_touches_0 [.ref 3, .int x1, .int x2] [.int x2, .int (m.1 6 (x1).toNatClampNeg)] (sm_hp m) [(x1, 14)] rfl (sm_oc q1 (sm_on)) ?_
  refine w_icmp_eq (tgt := 20) dX2_touches_7 rfl (fun hc => ?_) (fun hc => ?_)
  · replace hf := sm_ift hc hf
    refine w_blk bX2_touches_20 [.ref 3, .int x1, .int x2] [.int (1 : Int32)] (sm_hp m) [] rfl (sm_on) ?_
    refine w_goto (tgt := 25) dX2_touches_21 rfl ?_
    obtain rfl := Option.some.inj hf
    exact w_reti dX2_touches_25 rfl sm_nb1
  · replace hf := sm_iff hc hf
    replace hf := sm_ck hf
    obtain ⟨q2, hf⟩ := hf
    refine w_blk bX2_touches_10 [.ref 3, .int x1, .int x2] [.int x2, .int (m.1 7 (x1).toNatClampNeg)] (sm_hp m) [(x1, 14)] rfl (sm_oc q2 (sm_on)) ?_
    refine w_icmp_ne (tgt := 24) dX2_touches_17 rfl (fun hc => ?_) (fun hc => ?_)
    · replace hf := sm_iff hc hf
      refine w_blk bX2_touches_24 [.ref 3, .int x1, .int x2] [.int (0 : Int32)] (sm_hp m) [] rfl (sm_on) ?_
      obtain rfl := Option.some.inj hf
      exact w_reti dX2_touches_25 rfl sm_nb0
    · replace hf := sm_ift hc hf
      refine w_blk bX2_touches_20 [.ref 3, .int x1, .int x2] [.int (1 : Int32)] (sm_hp m) [] rfl (sm_on) ?_
      refine w_goto (tgt := 25) dX2_touches_21 rfl ?_
      obtain rfl := Option.some.inj hf
      exact w_reti dX2_touches_25 rfl sm_nb1
set_option maxRecDepth 10000 in
theorem tX2_minutesFrom {l : Launch} {al : Bool} (x1 : Int32) (x2 : Int32) (m : sm_S) (r : Int32) (hf : fX2_minutesFrom x1 x2 m = some r) : sm_Rt l mX2_minutesFrom 1 0 0 al al [.ref 3, .int x1, .int x2] (sm_hp m) (some (.int r), sm_hp m) := by
  refine sm_Rt.ofW (L := [.ref 3, .int x1, .int x2]) (by decide) (Nat.le_of_ble_eq_true rfl) rfl ?_
  unfold fX2_minutesFrom at hf
  replace hf := sm_ck hf
  obtain ⟨q1, hf⟩ := hf
  refine w_blk bX2_minutesFrom_0 [.ref 3, .int x1, .int x2] [.int x2, .int (m.1 6 (x1).toNatClampNeg)] (sm_hp m) [(x1, 14)] rfl (sm_oc q1 (sm_on)) ?_
  refine w_icmp_ne (tgt := 19) dX2_minutesFrom_7 rfl (fun hc => ?_) (fun hc => ?_)
  · replace hf := sm_iff hc hf
    replace hf := sm_ck hf
    obtain ⟨q2, hf⟩ := hf
    replace hf := sm_ck hf
    obtain ⟨q3, hf⟩ := hf
    refine w_blk bX2_minutesFrom_19 [.ref 3, .int x1, .int x2] [.int ((m.1 8 (x1).toNatClampNeg) + (m.1 12 (x1).toNatClampNeg))] (sm_hp m) [(x1, 14), (x1, 14)] rfl (sm_oc q2 (sm_oc q3 (sm_on))) ?_
    obtain rfl := Option.some.inj hf
    exact w_reti dX2_minutesFrom_32 rfl rfl
  · replace hf := sm_ift hc hf
    replace hf := sm_ck hf
    obtain ⟨q4, hf⟩ := hf
    refine w_blk bX2_minutesFrom_10 [.ref 3, .int x1, .int x2] [.int (m.1 8 (x1).toNatClampNeg)] (sm_hp m) [(x1, 14)] rfl (sm_oc q4 (sm_on)) ?_
    refine w_goto (tgt := 32) dX2_minutesFrom_16 rfl ?_
    obtain rfl := Option.some.inj hf
    exact w_reti dX2_minutesFrom_32 rfl rfl
set_option maxRecDepth 10000 in
theorem tX6_isLight {l : Launch} {al : Bool} (m : sm_S) (r : Int32) (hf : fX6_isLight m = some r) : sm_Rt l mX6_isLight 1 0 0 al al [.ref 16] (sm_hp m) (some (.int r), sm_hp m) := by
  refine sm_Rt.ofW (L := [.ref 16]) (by decide) (Nat.le_of_ble_eq_true rfl) rfl ?_
  unfold fX6_isLight at hf
  refine w_blk bX6_isLight_0 [.ref 16] [.int (40 : Int32), .int ((m.1 16 1) - (m.1 16 1) / (60 : Int32) * (60 : Int32))] (sm_hp m) [] rfl (sm_on) ?_
  refine w_icmp_ge (tgt := 16) dX6_isLight_9 rfl (fun hc => ?_) (fun hc => ?_)
  · replace hf := sm_ift hc hf
    refine w_blk bX6_isLight_16 [.ref 16] [.int (0 : Int32)] (sm_hp m) [] rfl (sm_on) ?_
    obtain rfl := Option.some.inj hf
    exact w_reti dX6_isLight_17 rfl sm_nb0
  · replace hf := sm_iff hc hf
    refine w_blk bX6_isLight_12 [.ref 16] [.int (1 : Int32)] (sm_hp m) [] rfl (sm_on) ?_
    refine w_goto (tgt := 17) dX6_isLight_13 rfl ?_
    obtain rfl := Option.some.inj hf
    exact w_reti dX6_isLight_17 rfl sm_nb1
set_option maxRecDepth 10000 in
theorem tX6_whyNot {l : Launch} {al : Bool} (x1 : Int32) (m : sm_S) (r : Int32) (hf : fX6_whyNot x1 m = some r) : sm_Rt l mX6_whyNot 3 0 0 al al [.ref 16, .ref 3, .int x1] (sm_hp m) (some (.int r), sm_hp m) := by
  refine sm_Rt.ofW (L := [.ref 16, .ref 3, .int x1]) (by decide) (Nat.le_of_ble_eq_true rfl) rfl ?_
  unfold fX6_whyNot at hf
  refine w_blk bX6_whyNot_0 [.ref 16, .ref 3, .int x1] [.int (m.1 16 0), .int x1, .ref 3] (sm_hp m) [] rfl (sm_on) ?_
  replace hf := sm_bd hf
  obtain ⟨r2, q1, hf⟩ := hf
  refine w_callV [.int x1, .int (m.1 16 0)] [] (tX2_touches x1 (m.1 16 0) m r2 q1) (cvX6_31 rfl) dX6_whyNot_6 rfl rfl (by decide) (by decide) rfl (Nat.le_of_ble_eq_true rfl) ?_
  show sm_W _ _ _ _ _ 9 [.ref 16, .ref 3, .int x1] [.int r2] (sm_hp m)
  refine w_if_ne (tgt := 15) dX6_whyNot_9 rfl (fun hc => ?_) (fun hc => ?_)
  · replace hf := sm_iff hc hf
    refine w_blk bX6_whyNot_15 [.ref 16, .ref 3, .int x1] [.int x1, .ref 3, .ref 16] (sm_hp m) [] rfl (sm_on) ?_
    replace hf := sm_bd hf
    obtain ⟨r4, q3, hf⟩ := hf
    refine w_callV [.ref 3, .int x1] [] (tX6_isFresh x1 m r4 q3) (cvX6_35 rfl) dX6_whyNot_18 rfl rfl (by decide) (by decide) rfl (Nat.le_of_ble_eq_true rfl) ?_
    show sm_W _ _ _ _ _ 21 [.ref 16, .ref 3, .int x1] [.int r4] (sm_hp m)
    refine w_if_ne (tgt := 27) dX6_whyNot_21 rfl (fun hc => ?_) (fun hc => ?_)
    · replace hf := sm_iff hc hf
      replace hf := sm_ck hf
      obtain ⟨q5, hf⟩ := hf
      refine w_blk bX6_whyNot_27 [.ref 16, .ref 3, .int x1] [.int (m.1 13 (x1).toNatClampNeg)] (sm_hp m) [(x1, 14)] rfl (sm_oc q5 (sm_on)) ?_
      refine w_if_eq (tgt := 46) dX6_whyNot_33 rfl (fun hc => ?_) (fun hc => ?_)
      · replace hf := sm_ift hc hf
        refine w_blk bX6_whyNot_46 [.ref 16, .ref 3, .int x1] [.int (m.1 16 0), .int x1, .ref 3, .int (m.1 16 1)] (sm_hp m) [] rfl (sm_on) ?_
        replace hf := sm_bd hf
        obtain ⟨r7, q6, hf⟩ := hf
        refine w_callV [.int x1, .int (m.1 16 0)] [.int (m.1 16 1)] (tX2_minutesFrom x1 (m.1 16 0) m r7 q6) (cvX6_47 rfl) dX6_whyNot_56 rfl rfl (by decide) (by decide) rfl (Nat.le_of_ble_eq_true rfl) ?_
        show sm_W _ _ _ _ _ 59 [.ref 16, .ref 3, .int x1] [.int r7, .int (m.1 16 1)] (sm_hp m)
        refine w_blk bX6_whyNot_59 [.ref 16, .ref 3, .int x1] [.int (m.1 3 3), .int ((m.1 16 1) + r7)] (sm_hp m) [] rfl (sm_on) ?_
        refine w_icmp_le (tgt := 72) dX6_whyNot_64 rfl (fun hc => ?_) (fun hc => ?_)
        · replace hf := sm_ift hc hf
          refine w_blk bX6_whyNot_72 [.ref 16, .ref 3, .int x1] [.int (0 : Int32)] (sm_hp m) [] rfl (sm_on) ?_
          obtain rfl := Option.some.inj hf
          exact w_reti dX6_whyNot_73 rfl rfl
        · replace hf := sm_iff hc hf
          refine w_blk bX6_whyNot_67 [.ref 16, .ref 3, .int x1] [.int (-5 : Int32)] (sm_hp m) [] rfl (sm_on) ?_
          refine w_goto (tgt := 73) dX6_whyNot_69 rfl ?_
          obtain rfl := Option.some.inj hf
          exact w_reti dX6_whyNot_73 rfl rfl
      · replace hf := sm_iff hc hf
        refine w_blk bX6_whyNot_36 [.ref 16, .ref 3, .int x1] [.ref 16] (sm_hp m) [] rfl (sm_on) ?_
        replace hf := sm_bd hf
        obtain ⟨r9, q8, hf⟩ := hf
        refine w_callV [] [] (tX6_isLight m r9 q8) (cvX6_43 rfl) dX6_whyNot_37 rfl rfl (by decide) (by decide) rfl (Nat.le_of_ble_eq_true rfl) ?_
        show sm_W _ _ _ _ _ 40 [.ref 16, .ref 3, .int x1] [.int r9] (sm_hp m)
        refine w_if_ne (tgt := 46) dX6_whyNot_40 rfl (fun hc => ?_) (fun hc => ?_)
        · replace hf := sm_iff hc hf
          refine w_blk bX6_whyNot_46 [.ref 16, .ref 3, .int x1] [.int (m.1 16 0), .int x1, .ref 3, .int (m.1 16 1)] (sm_hp m) [] rfl (sm_on) ?_
          replace hf := sm_bd hf
          obtain ⟨r11, q10, hf⟩ := hf
          refine w_callV [.int x1, .int (m.1 16 0)] [.int (m.1 16 1)] (tX2_minutesFrom x1 (m.1 16 0) m r11 q10) (cvX6_47 rfl) dX6_whyNot_56 rfl rfl (by decide) (by decide) rfl (Nat.le_of_ble_eq_true rfl) ?_
          show sm_W _ _ _ _ _ 59 [.ref 16, .ref 3, .int x1] [.int r11, .int (m.1 16 1)] (sm_hp m)
          refine w_blk bX6_whyNot_59 [.ref 16, .ref 3, .int x1] [.int (m.1 3 3), .int ((m.1 16 1) + r11)] (sm_hp m) [] rfl (sm_on) ?_
          refine w_icmp_le (tgt := 72) dX6_whyNot_64 rfl (fun hc => ?_) (fun hc => ?_)
          · replace hf := sm_ift hc hf
            refine w_blk bX6_whyNot_72 [.ref 16, .ref 3, .int x1] [.int (0 : Int32)] (sm_hp m) [] rfl (sm_on) ?_
            obtain rfl := Option.some.inj hf
            exact w_reti dX6_whyNot_73 rfl rfl
          · replace hf := sm_iff hc hf
            refine w_blk bX6_whyNot_67 [.ref 16, .ref 3, .int x1] [.int (-5 : Int32)] (sm_hp m) [] rfl (sm_on) ?_
            refine w_goto (tgt := 73) dX6_whyNot_69 rfl ?_
            obtain rfl := Option.some.inj hf
            exact w_reti dX6_whyNot_73 rfl rfl
        · replace hf := sm_ift hc hf
          refine w_blk bX6_whyNot_43 [.ref 16, .ref 3, .int x1] [.int (-4 : Int32)] (sm_hp m) [] rfl (sm_on) ?_
          obtain rfl := Option.some.inj hf
          exact w_reti dX6_whyNot_45 rfl rfl
    · replace hf := sm_ift hc hf
      refine w_blk bX6_whyNot_24 [.ref 16, .ref 3, .int x1] [.int (-3 : Int32)] (sm_hp m) [] rfl (sm_on) ?_
      obtain rfl := Option.some.inj hf
      exact w_reti dX6_whyNot_26 rfl rfl
  · replace hf := sm_ift hc hf
    refine w_blk bX6_whyNot_12 [.ref 16, .ref 3, .int x1] [.int (-2 : Int32)] (sm_hp m) [] rfl (sm_on) ?_
    obtain rfl := Option.some.inj hf
    exact w_reti dX6_whyNot_14 rfl rfl
set_option maxRecDepth 10000 in
theorem tX7_remember {l : Launch} {al : Bool} (x1 : Int32) (m : sm_S) (r : sm_S) (hf : fX7_remember x1 m = some r) : sm_Rt l mX7_remember 1 0 0 al al [.ref 20, .ref 16, .int x1] (sm_hp m) (none, sm_hp r) := by
  refine sm_Rt.ofW (L := [.ref 20, .ref 16, .int x1]) (by decide) (Nat.le_of_ble_eq_true rfl) rfl ?_
  unfold fX7_remember at hf
  replace hf := sm_ck hf
  obtain ⟨q1, hf⟩ := hf
  replace hf := sm_ck hf
  obtain ⟨q2, hf⟩ := hf
  replace hf := sm_ck hf
  obtain ⟨q3, hf⟩ := hf
  replace hf := sm_ck hf
  obtain ⟨q4, hf⟩ := hf
  replace hf := sm_ck hf
  obtain ⟨q5, hf⟩ := hf
  refine w_blk bX7_remember_0 [.ref 20, .ref 16, .int x1] [] (sm_hp (sm_w1 (sm_w1 (sm_w1 (sm_w1 (sm_w1 (sm_w1 m 21 (m.1 20 1).toNatClampNeg x1) 22 (m.1 20 1).toNatClampNeg (m.1 16 0)) 23 (m.1 20 1).toNatClampNeg (m.1 16 1)) 24 (m.1 20 1).toNatClampNeg (m.1 17 (x1).toNatClampNeg)) 20 1 (((m.1 20 1) + (1 : Int32)) - ((m.1 20 1) + (1 : Int32)) / (30 : Int32) * (30 : Int32))) 20 0 (if (30 : Int32) < ((m.1 20 0) + (1 : Int32)) then (30 : Int32) else ((m.1 20 0) + (1 : Int32))))) [((m.1 20 1), 30), ((m.1 20 1), 30), ((m.1 20 1), 30), (x1, 14), ((m.1 20 1), 30)] rfl (sm_oc q1 (sm_oc q2 (sm_oc q3 (sm_oc q4 (sm_oc q5 (sm_on)))))) ?_
  obtain rfl := Option.some.inj hf
  exact w_retv dX7_remember_79 rfl
set_option maxRecDepth 10000 in
theorem tX2_otherEnd {l : Launch} {al : Bool} (x1 : Int32) (x2 : Int32) (m : sm_S) (r : Int32) (hf : fX2_otherEnd x1 x2 m = some r) : sm_Rt l mX2_otherEnd 1 0 0 al al [.ref 3, .int x1, .int x2] (sm_hp m) (some (.int r), sm_hp m) := by
  refine sm_Rt.ofW (L := [.ref 3, .int x1, .int x2]) (by decide) (Nat.le_of_ble_eq_true rfl) rfl ?_
  unfold fX2_otherEnd at hf
  replace hf := sm_ck hf
  obtain ⟨q1, hf⟩ := hf
  refine w_blk bX2_otherEnd_0 [.ref 3, .int x1, .int x2] [.int x2, .int (m.1 6 (x1).toNatClampNeg)] (sm_hp m) [(x1, 14)] rfl (sm_oc q1 (sm_on)) ?_
  refine w_icmp_ne (tgt := 19) dX2_otherEnd_7 rfl (fun hc => ?_) (fun hc => ?_)
  · replace hf := sm_iff hc hf
    replace hf := sm_ck hf
    obtain ⟨q2, hf⟩ := hf
    refine w_blk bX2_otherEnd_19 [.ref 3, .int x1, .int x2] [.int (m.1 6 (x1).toNatClampNeg)] (sm_hp m) [(x1, 14)] rfl (sm_oc q2 (sm_on)) ?_
    obtain rfl := Option.some.inj hf
    exact w_reti dX2_otherEnd_25 rfl rfl
  · replace hf := sm_ift hc hf
    replace hf := sm_ck hf
    obtain ⟨q3, hf⟩ := hf
    refine w_blk bX2_otherEnd_10 [.ref 3, .int x1, .int x2] [.int (m.1 7 (x1).toNatClampNeg)] (sm_hp m) [(x1, 14)] rfl (sm_oc q3 (sm_on)) ?_
    refine w_goto (tgt := 25) dX2_otherEnd_16 rfl ?_
    obtain rfl := Option.some.inj hf
    exact w_reti dX2_otherEnd_25 rfl rfl
set_option maxRecDepth 10000 in
theorem tX6_step {l : Launch} {al : Bool} (x1 : Int32) (m : sm_S) (r : Int32 × sm_S) (hf : fX6_step x1 m = some r) : sm_Rt l mX6_step 2 0 0 al al [.ref 16, .ref 3, .int x1] (sm_hp m) (some (.int r.1), sm_hp r.2) := by
  refine sm_Rt.ofW (L := [.ref 16, .ref 3, .int x1, .retAddr 0]) (by decide) (Nat.le_of_ble_eq_true rfl) rfl ?_
  unfold fX6_step at hf
  refine w_blk bX6_step_0 [.ref 16, .ref 3, .int x1, .retAddr 0] [.int (m.1 16 0), .int x1, .ref 3] (sm_hp m) [] rfl (sm_on) ?_
  replace hf := sm_bd hf
  obtain ⟨r2, q1, hf⟩ := hf
  refine w_callV [.int x1, .int (m.1 16 0)] [] (tX2_minutesFrom x1 (m.1 16 0) m r2 q1) (cvX6_47 rfl) dX6_step_6 rfl rfl (by decide) (by decide) rfl (Nat.le_of_ble_eq_true rfl) ?_
  show sm_W _ _ _ _ _ 9 [.ref 16, .ref 3, .int x1, .retAddr 0] [.int r2] (sm_hp m)
  refine w_blk bX6_step_9 [.ref 16, .ref 3, .int x1, .int r2] [.ref 16, .int x1, .ref 17] (sm_hp m) [] rfl (sm_on) ?_
  replace hf := sm_bd hf
  obtain ⟨r4, q3, hf⟩ := hf
  refine w_callV [] [.int x1, .ref 17] (tX6_day m r4 q3) (cvX6_22 rfl) dX6_step_16 rfl rfl (by decide) (by decide) rfl (Nat.le_of_ble_eq_true rfl) ?_
  show sm_W _ _ _ _ _ 19 [.ref 16, .ref 3, .int x1, .int r2] [.int r4, .int x1, .ref 17] (sm_hp m)
  replace hf := sm_ck hf
  obtain ⟨q5, hf⟩ := hf
  refine w_blk bX6_step_19 [.ref 16, .ref 3, .int x1, .int r2] [.int (m.1 16 0), .int x1, .ref 3, .ref 16] (sm_hp (sm_w1 (sm_w1 m 17 (x1).toNatClampNeg r4) 16 1 ((m.1 16 1) + r2))) [(x1, 14)] rfl (sm_oc q5 (sm_on)) ?_
  replace hf := sm_bd hf
  obtain ⟨r7, q6, hf⟩ := hf
  refine w_callV [.int x1, .int (m.1 16 0)] [.ref 16] (tX2_otherEnd x1 (m.1 16 0) (sm_w1 (sm_w1 m 17 (x1).toNatClampNeg r4) 16 1 ((m.1 16 1) + r2)) r7 q6) (cvX6_54 rfl) dX6_step_37 rfl rfl (by decide) (by decide) rfl (Nat.le_of_ble_eq_true rfl) ?_
  show sm_W _ _ _ _ _ 40 [.ref 16, .ref 3, .int x1, .int r2] [.int r7, .ref 16] (sm_hp (sm_w1 (sm_w1 m 17 (x1).toNatClampNeg r4) 16 1 ((m.1 16 1) + r2)))
  refine w_blk bX6_step_40 [.ref 16, .ref 3, .int x1, .int r2] [.int r2] (sm_hp (sm_w1 (sm_w1 (sm_w1 m 17 (x1).toNatClampNeg r4) 16 1 ((m.1 16 1) + r2)) 16 0 r7)) [] rfl (sm_on) ?_
  obtain rfl := Option.some.inj hf
  exact w_reti dX6_step_44 rfl rfl
set_option maxRecDepth 10000 in
theorem tX11_walk {l : Launch} {al : Bool} (x1 : Int32) (m : sm_S) (r : Int32 × sm_S) (hf : fX11_walk x1 m = some r) : sm_Rt l mX11_walk 4 0 0 al al [.ref 0, .int x1] (sm_hp m) (some (.int r.1), sm_hp r.2) := by
  refine sm_Rt.ofW (L := [.ref 0, .int x1, .retAddr 0]) (by decide) (Nat.le_of_ble_eq_true rfl) rfl ?_
  unfold fX11_walk at hf
  refine w_blk bX11_walk_0 [.ref 0, .int x1, .retAddr 0] [.int x1, .ref 3] (sm_hp m) [] rfl (sm_on) ?_
  replace hf := sm_bd hf
  obtain ⟨r2, q1, hf⟩ := hf
  refine w_callV [.int x1] [] (tX2_hasHedge x1 m r2 q1) (cvX11_105 rfl) dX11_walk_5 rfl rfl (by decide) (by decide) rfl (Nat.le_of_ble_eq_true rfl) ?_
  show sm_W _ _ _ _ _ 8 [.ref 0, .int x1, .retAddr 0] [.int r2] (sm_hp m)
  refine w_if_ne (tgt := 13) dX11_walk_8 rfl (fun hc => ?_) (fun hc => ?_)
  · replace hf := sm_iff hc hf
    refine w_blk bX11_walk_13 [.ref 0, .int x1, .retAddr 0] [.int x1, .ref 3, .ref 16] (sm_hp m) [] rfl (sm_on) ?_
    replace hf := sm_bd hf
    obtain ⟨r4, q3, hf⟩ := hf
    refine w_callV [.ref 3, .int x1] [] (tX6_whyNot x1 m r4 q3) (cvX11_182 rfl) dX11_walk_22 rfl rfl (by decide) (by decide) rfl (Nat.le_of_ble_eq_true rfl) ?_
    show sm_W _ _ _ _ _ 25 [.ref 0, .int x1, .retAddr 0] [.int r4] (sm_hp m)
    refine w_blk bX11_walk_25 [.ref 0, .int x1, .int r4] [.int r4] (sm_hp m) [] rfl (sm_on) ?_
    refine w_if_eq (tgt := 32) dX11_walk_27 rfl (fun hc => ?_) (fun hc => ?_)
    · replace hf := sm_ift hc hf
      refine w_blk bX11_walk_32 [.ref 0, .int x1, .int r4] [.int x1, .ref 16, .ref 20] (sm_hp m) [] rfl (sm_on) ?_
      replace hf := sm_bd hf
      obtain ⟨m6, q5, hf⟩ := hf
      refine w_callV [.ref 16, .int x1] [] (tX7_remember x1 m m6 q5) (cvX11_186 rfl) dX11_walk_41 rfl rfl (by decide) (by decide) rfl (Nat.le_of_ble_eq_true rfl) ?_
      show sm_W _ _ _ _ _ 44 [.ref 0, .int x1, .int r4] [] (sm_hp m6)
      refine w_blk bX11_walk_44 [.ref 0, .int x1, .int r4] [.int x1, .ref 3, .ref 16] (sm_hp m6) [] rfl (sm_on) ?_
      replace hf := sm_bd hf
      obtain ⟨r8, q7, hf⟩ := hf
      refine w_callV [.ref 3, .int x1] [] (tX6_step x1 m6 r8 q7) (cvX11_190 rfl) dX11_walk_53 rfl rfl (by decide) (by decide) rfl (Nat.le_of_ble_eq_true rfl) ?_
      show sm_W _ _ _ _ _ 56 [.ref 0, .int x1, .int r4] [.int r8.1] (sm_hp r8.2)
      obtain rfl := Option.some.inj hf
      exact w_reti dX11_walk_56 rfl rfl
    · replace hf := sm_iff hc hf
      refine w_blk bX11_walk_30 [.ref 0, .int x1, .int r4] [.int r4] (sm_hp m) [] rfl (sm_on) ?_
      obtain rfl := Option.some.inj hf
      exact w_reti dX11_walk_31 rfl rfl
  · replace hf := sm_ift hc hf
    refine w_blk bX11_walk_11 [.ref 0, .int x1, .retAddr 0] [.int (-1 : Int32)] (sm_hp m) [] rfl (sm_on) ?_
    obtain rfl := Option.some.inj hf
    exact w_reti dX11_walk_12 rfl rfl
set_option maxRecDepth 10000 in
theorem tX11_rest {l : Launch} {al : Bool} (x1 : Int32) (m : sm_S) (r : Int32 × sm_S) (hf : fX11_rest x1 m = some r) : sm_Rt l mX11_rest 1 0 0 al al [.ref 0, .int x1] (sm_hp m) (some (.int r.1), sm_hp r.2) := by
  refine sm_Rt.ofW (L := [.ref 0, .int x1]) (by decide) (Nat.le_of_ble_eq_true rfl) rfl ?_
  unfold fX11_rest at hf
  refine w_blk bX11_rest_0 [.ref 0, .int x1] [.int x1] (sm_hp m) [] rfl (sm_on) ?_
  refine w_if_lt (tgt := 11) dX11_rest_1 rfl (fun hc => ?_) (fun hc => ?_)
  · replace hf := sm_ift hc hf
    refine w_blk bX11_rest_11 [.ref 0, .int x1] [.int (-1 : Int32)] (sm_hp m) [] rfl (sm_on) ?_
    obtain rfl := Option.some.inj hf
    exact w_reti dX11_rest_12 rfl rfl
  · replace hf := sm_iff hc hf
    refine w_blk bX11_rest_4 [.ref 0, .int x1] [.int (9999 : Int32), .int x1] (sm_hp m) [] rfl (sm_on) ?_
    refine w_icmp_le (tgt := 13) dX11_rest_8 rfl (fun hc => ?_) (fun hc => ?_)
    · replace hf := sm_ift hc hf
      refine w_blk bX11_rest_13 [.ref 0, .int x1] [.int (m.1 3 3), .int ((m.1 16 1) + x1)] (sm_hp m) [] rfl (sm_on) ?_
      refine w_icmp_le (tgt := 35) dX11_rest_29 rfl (fun hc => ?_) (fun hc => ?_)
      · replace hf := sm_ift hc hf
        refine w_blk bX11_rest_35 [.ref 0, .int x1] [.int ((m.1 16 1) + x1)] (sm_hp (sm_w1 (sm_w1 m 16 1 ((m.1 16 1) + x1)) 20 0 (0 : Int32))) [] rfl (sm_on) ?_
        obtain rfl := Option.some.inj hf
        exact w_reti dX11_rest_63 rfl rfl
      · replace hf := sm_iff hc hf
        refine w_blk bX11_rest_32 [.ref 0, .int x1] [.int (-5 : Int32)] (sm_hp m) [] rfl (sm_on) ?_
        obtain rfl := Option.some.inj hf
        exact w_reti dX11_rest_34 rfl rfl
    · replace hf := sm_iff hc hf
      refine w_blk bX11_rest_11 [.ref 0, .int x1] [.int (-1 : Int32)] (sm_hp m) [] rfl (sm_on) ?_
      obtain rfl := Option.some.inj hf
      exact w_reti dX11_rest_12 rfl rfl
set_option maxRecDepth 10000 in
theorem tX7_takeBack {l : Launch} {al : Bool} (m : sm_S) (r : Int32 × sm_S) (hf : fX7_takeBack m = some r) : sm_Rt l mX7_takeBack 1 0 0 al al [.ref 20, .ref 16] (sm_hp m) (some (.int r.1), sm_hp r.2) := by
  refine sm_Rt.ofW (L := [.ref 20, .ref 16]) (by decide) (Nat.le_of_ble_eq_true rfl) rfl ?_
  unfold fX7_takeBack at hf
  refine w_blk bX7_takeBack_0 [.ref 20, .ref 16] [.int (m.1 20 0)] (sm_hp m) [] rfl (sm_on) ?_
  refine w_if_ne (tgt := 9) dX7_takeBack_4 rfl (fun hc => ?_) (fun hc => ?_)
  · replace hf := sm_iff hc hf
    replace hf := sm_ck hf
    obtain ⟨q1, hf⟩ := hf
    replace hf := sm_ck hf
    obtain ⟨q2, hf⟩ := hf
    replace hf := sm_ck hf
    obtain ⟨q3, hf⟩ := hf
    replace hf := sm_ck hf
    obtain ⟨q4, hf⟩ := hf
    replace hf := sm_ck hf
    obtain ⟨q5, hf⟩ := hf
    refine w_blk bX7_takeBack_9 [.ref 20, .ref 16] [.int (1 : Int32)] (sm_hp (sm_w1 (sm_w1 (sm_w1 (sm_w1 (sm_w1 m 20 1 ((((m.1 20 1) + (30 : Int32)) - (1 : Int32)) - (((m.1 20 1) + (30 : Int32)) - (1 : Int32)) / (30 : Int32) * (30 : Int32))) 20 0 ((m.1 20 0) - (1 : Int32))) 16 0 (m.1 22 ((((m.1 20 1) + (30 : Int32)) - (1 : Int32)) - (((m.1 20 1) + (30 : Int32)) - (1 : Int32)) / (30 : Int32) * (30 : Int32)).toNatClampNeg)) 16 1 (m.1 23 ((((m.1 20 1) + (30 : Int32)) - (1 : Int32)) - (((m.1 20 1) + (30 : Int32)) - (1 : Int32)) / (30 : Int32) * (30 : Int32)).toNatClampNeg)) 17 (m.1 21 ((((m.1 20 1) + (30 : Int32)) - (1 : Int32)) - (((m.1 20 1) + (30 : Int32)) - (1 : Int32)) / (30 : Int32) * (30 : Int32)).toNatClampNeg).toNatClampNeg (m.1 24 ((((m.1 20 1) + (30 : Int32)) - (1 : Int32)) - (((m.1 20 1) + (30 : Int32)) - (1 : Int32)) / (30 : Int32) * (30 : Int32)).toNatClampNeg))) [(((((m.1 20 1) + (30 : Int32)) - (1 : Int32)) - (((m.1 20 1) + (30 : Int32)) - (1 : Int32)) / (30 : Int32) * (30 : Int32)), 30), (((((m.1 20 1) + (30 : Int32)) - (1 : Int32)) - (((m.1 20 1) + (30 : Int32)) - (1 : Int32)) / (30 : Int32) * (30 : Int32)), 30), (((((m.1 20 1) + (30 : Int32)) - (1 : Int32)) - (((m.1 20 1) + (30 : Int32)) - (1 : Int32)) / (30 : Int32) * (30 : Int32)), 30), (((((m.1 20 1) + (30 : Int32)) - (1 : Int32)) - (((m.1 20 1) + (30 : Int32)) - (1 : Int32)) / (30 : Int32) * (30 : Int32)), 30), ((m.1 21 ((((m.1 20 1) + (30 : Int32)) - (1 : Int32)) - (((m.1 20 1) + (30 : Int32)) - (1 : Int32)) / (30 : Int32) * (30 : Int32)).toNatClampNeg), 14)] rfl (sm_oc q1 (sm_oc q2 (sm_oc q3 (sm_oc q4 (sm_oc q5 (sm_on)))))) ?_
    obtain rfl := Option.some.inj hf
    exact w_reti dX7_takeBack_85 rfl sm_nb1
  · replace hf := sm_ift hc hf
    refine w_blk bX7_takeBack_7 [.ref 20, .ref 16] [.int (0 : Int32)] (sm_hp m) [] rfl (sm_on) ?_
    obtain rfl := Option.some.inj hf
    exact w_reti dX7_takeBack_8 rfl sm_nb0
set_option maxRecDepth 10000 in
theorem tX11_undo {l : Launch} {al : Bool} (m : sm_S) (r : Int32 × sm_S) (hf : fX11_undo m = some r) : sm_Rt l mX11_undo 2 0 0 al al [.ref 0] (sm_hp m) (some (.int r.1), sm_hp r.2) := by
  refine sm_Rt.ofW (L := [.ref 0]) (by decide) (Nat.le_of_ble_eq_true rfl) rfl ?_
  unfold fX11_undo at hf
  refine w_blk bX11_undo_0 [.ref 0] [.ref 16, .ref 20] (sm_hp m) [] rfl (sm_on) ?_
  replace hf := sm_bd hf
  obtain ⟨r2, q1, hf⟩ := hf
  refine w_callV [.ref 16] [] (tX7_takeBack m r2 q1) (cvX11_196 rfl) dX11_undo_8 rfl rfl (by decide) (by decide) rfl (Nat.le_of_ble_eq_true rfl) ?_
  show sm_W _ _ _ _ _ 11 [.ref 0] [.int r2.1] (sm_hp r2.2)
  refine w_if_eq (tgt := 24) dX11_undo_11 rfl (fun hc => ?_) (fun hc => ?_)
  · replace hf := sm_ift hc hf
    refine w_blk bX11_undo_24 [.ref 0] [.int (-1 : Int32)] (sm_hp r2.2) [] rfl (sm_on) ?_
    obtain rfl := Option.some.inj hf
    exact w_reti dX11_undo_25 rfl rfl
  · replace hf := sm_iff hc hf
    refine w_blk bX11_undo_14 [.ref 0] [.int (r2.2.1 20 0)] (sm_hp r2.2) [] rfl (sm_on) ?_
    refine w_goto (tgt := 25) dX11_undo_21 rfl ?_
    obtain rfl := Option.some.inj hf
    exact w_reti dX11_undo_25 rfl rfl
set_option maxRecDepth 10000 in
theorem tX6_beginAt_12 {l : Launch} {al : Bool} : ∀ (n : Nat) (v2 : Int32) (m : sm_S) (r : sm_S), fX6_beginAt_12 n v2 m = some r → sm_W l mX6_beginAt 1 al (none, sm_hp r) 12 [.ref 16, .retAddr 0, .int v2] [] (sm_hp m) := by
  intro n
  induction n with
  | zero =>
    intro v2 m r hf
    unfold fX6_beginAt_12 at hf
    cases hf
  | succ n ih =>
    intro v2 m r hf
    unfold fX6_beginAt_12 at hf
    refine w_blk bX6_beginAt_12 [.ref 16, .retAddr 0, .int v2] [.int (14 : Int32), .int v2] (sm_hp m) [] rfl (sm_on) ?_
    refine w_icmp_ge (tgt := 31) dX6_beginAt_15 rfl (fun hc => ?_) (fun hc => ?_)
    · replace hf := sm_ift hc hf
      obtain rfl := Option.some.inj hf
      exact w_retv dX6_beginAt_31 rfl
    · replace hf := sm_iff hc hf
      replace hf := sm_ck hf
      obtain ⟨q1, hf⟩ := hf
      refine w_blk bX6_beginAt_18 [.ref 16, .retAddr 0, .int (v2 + (1 : Int32))] [] (sm_hp (sm_w1 m 17 (v2).toNatClampNeg (-1 : Int32))) [(v2, 14)] rfl (sm_oc q1 (sm_on)) ?_
      refine w_goto (tgt := 12) dX6_beginAt_28 rfl ?_
      exact ih (v2 + (1 : Int32)) (sm_w1 m 17 (v2).toNatClampNeg (-1 : Int32)) r hf
set_option maxRecDepth 10000 in
theorem tX6_beginAt {l : Launch} {al : Bool} (x1 : Int32) (m : sm_S) (r : sm_S) (hf : fX6_beginAt x1 m = some r) : sm_Rt l mX6_beginAt 1 0 0 al al [.ref 16, .int x1] (sm_hp m) (none, sm_hp r) := by
  refine sm_Rt.ofW (L := [.ref 16, .int x1, .retAddr 0]) (by decide) (Nat.le_of_ble_eq_true rfl) rfl ?_
  unfold fX6_beginAt at hf
  refine w_blk bX6_beginAt_0 [.ref 16, .int x1, .int (0 : Int32)] [] (sm_hp (sm_w1 (sm_w1 m 16 0 x1) 16 1 (0 : Int32))) [] rfl (sm_on) ?_
  refine w_wk [true, false, true] ?_
  exact tX6_beginAt_12 sm_fu (0 : Int32) (sm_w1 (sm_w1 m 16 0 x1) 16 1 (0 : Int32)) r hf
set_option maxRecDepth 10000 in
theorem tX11_go {l : Launch} {al : Bool} (x1 : Int32) (m : sm_S) (r : Int32 × sm_S) (hf : fX11_go x1 m = some r) : sm_Rt l mX11_go 2 0 0 al al [.ref 0, .int x1] (sm_hp m) (some (.int r.1), sm_hp r.2) := by
  refine sm_Rt.ofW (L := [.ref 0, .int x1]) (by decide) (Nat.le_of_ble_eq_true rfl) rfl ?_
  unfold fX11_go at hf
  refine w_blk bX11_go_0 [.ref 0, .int x1] [.int x1, .ref 3] (sm_hp m) [] rfl (sm_on) ?_
  replace hf := sm_bd hf
  obtain ⟨r2, q1, hf⟩ := hf
  refine w_callV [.int x1] [] (tX2_hasCorner x1 m r2 q1) (cvX11_144 rfl) dX11_go_5 rfl rfl (by decide) (by decide) rfl (Nat.le_of_ble_eq_true rfl) ?_
  show sm_W _ _ _ _ _ 8 [.ref 0, .int x1] [.int r2] (sm_hp m)
  refine w_if_ne (tgt := 13) dX11_go_8 rfl (fun hc => ?_) (fun hc => ?_)
  · replace hf := sm_iff hc hf
    refine w_blk bX11_go_13 [.ref 0, .int x1] [.int x1, .ref 16] (sm_hp m) [] rfl (sm_on) ?_
    replace hf := sm_bd hf
    obtain ⟨m4, q3, hf⟩ := hf
    refine w_callV [.int x1] [] (tX6_beginAt x1 m m4 q3) (cvX11_200 rfl) dX11_go_18 rfl rfl (by decide) (by decide) rfl (Nat.le_of_ble_eq_true rfl) ?_
    show sm_W _ _ _ _ _ 21 [.ref 0, .int x1] [] (sm_hp m4)
    refine w_blk bX11_go_21 [.ref 0, .int x1] [.int (1 : Int32)] (sm_hp (sm_w1 m4 20 0 (0 : Int32))) [] rfl (sm_on) ?_
    obtain rfl := Option.some.inj hf
    exact w_reti dX11_go_30 rfl sm_nb1
  · replace hf := sm_ift hc hf
    refine w_blk bX11_go_11 [.ref 0, .int x1] [.int (0 : Int32)] (sm_hp m) [] rfl (sm_on) ?_
    obtain rfl := Option.some.inj hf
    exact w_reti dX11_go_12 rfl sm_nb0
set_option maxRecDepth 10000 in
theorem tX11_can_4 {l : Launch} {al : Bool} : ∀ (n : Nat) (v1 : Int32) (v2 : Int32) (m : sm_S) (r : Int32), fX11_can_4 n v1 v2 m = some r → sm_W l mX11_can 4 al (some (.int r), sm_hp m) 4 [.ref 0, .int v1, .int v2] [] (sm_hp m) := by
  intro n
  induction n with
  | zero =>
    intro v1 v2 m r hf
    unfold fX11_can_4 at hf
    cases hf
  | succ n ih =>
    intro v1 v2 m r hf
    unfold fX11_can_4 at hf
    refine w_blk bX11_can_4 [.ref 0, .int v1, .int v2] [.int (m.1 3 1), .int v2] (sm_hp m) [] rfl (sm_on) ?_
    refine w_icmp_ge (tgt := 42) dX11_can_12 rfl (fun hc => ?_) (fun hc => ?_)
    · replace hf := sm_ift hc hf
      refine w_blk bX11_can_42 [.ref 0, .int v1, .int v2] [.int v1] (sm_hp m) [] rfl (sm_on) ?_
      obtain rfl := Option.some.inj hf
      exact w_reti dX11_can_43 rfl rfl
    · replace hf := sm_iff hc hf
      refine w_blk bX11_can_15 [.ref 0, .int v1, .int v2] [.int v2, .ref 3, .ref 16] (sm_hp m) [] rfl (sm_on) ?_
      replace hf := sm_bd hf
      obtain ⟨r2, q1, hf⟩ := hf
      refine w_callV [.ref 3, .int v2] [] (tX6_whyNot v2 m r2 q1) (cvX11_182 rfl) dX11_can_24 rfl rfl (by decide) (by decide) rfl (Nat.le_of_ble_eq_true rfl) ?_
      show sm_W _ _ _ _ _ 27 [.ref 0, .int v1, .int v2] [.int r2] (sm_hp m)
      refine w_if_ne (tgt := 36) dX11_can_27 rfl (fun hc => ?_) (fun hc => ?_)
      · replace hf := sm_iff hc hf
        refine w_blk bX11_can_36 [.ref 0, .int v1, .int (v2 + (1 : Int32))] [] (sm_hp m) [] rfl (sm_on) ?_
        refine w_goto (tgt := 4) dX11_can_39 rfl ?_
        exact ih v1 (v2 + (1 : Int32)) m r hf
      · replace hf := sm_ift hc hf
        refine w_blk bX11_can_30 [.ref 0, .int (v1 ||| ((1 : Int32) <<< (v2 &&& 31))), .int v2] [] (sm_hp m) [] rfl (sm_on) ?_
        refine w_blk bX11_can_36 [.ref 0, .int (v1 ||| ((1 : Int32) <<< (v2 &&& 31))), .int (v2 + (1 : Int32))] [] (sm_hp m) [] rfl (sm_on) ?_
        refine w_goto (tgt := 4) dX11_can_39 rfl ?_
        exact ih (v1 ||| ((1 : Int32) <<< (v2 &&& 31))) (v2 + (1 : Int32)) m r hf
set_option maxRecDepth 10000 in
theorem tX11_can {l : Launch} {al : Bool} (m : sm_S) (r : Int32) (hf : fX11_can m = some r) : sm_Rt l mX11_can 4 0 0 al al [.ref 0] (sm_hp m) (some (.int r), sm_hp m) := by
  refine sm_Rt.ofW (L := [.ref 0, .retAddr 0, .retAddr 0]) (by decide) (Nat.le_of_ble_eq_true rfl) rfl ?_
  unfold fX11_can at hf
  refine w_blk bX11_can_0 [.ref 0, .int (0 : Int32), .int (0 : Int32)] [] (sm_hp m) [] rfl (sm_on) ?_
  exact tX11_can_4 sm_fu (0 : Int32) (0 : Int32) m r hf
set_option maxRecDepth 10000 in
theorem tX9_firstBad_29 {l : Launch} {al : Bool} : ∀ (n : Nat) (v2 : Int32) (v3 : Int32) (v4 : Int32) (m : sm_S) (r : Int32), fX9_firstBad_29 n v2 v3 v4 m = some r → sm_W l mX9_firstBad 2 al (some (.int r), sm_hp m) 29 [.ref 3, .ref 2, .int v2, .int v3, .int v4, .retAddr 0] [] (sm_hp m) := by
  intro n
  induction n with
  | zero =>
    intro v2 v3 v4 m r hf
    unfold fX9_firstBad_29 at hf
    cases hf
  | succ n ih =>
    intro v2 v3 v4 m r hf
    unfold fX9_firstBad_29 at hf
    refine w_blk bX9_firstBad_29 [.ref 3, .ref 2, .int v2, .int v3, .int v4, .retAddr 0] [.int v2, .int v4] (sm_hp m) [] rfl (sm_on) ?_
    refine w_icmp_ge (tgt := 87) dX9_firstBad_32 rfl (fun hc => ?_) (fun hc => ?_)
    · replace hf := sm_ift hc hf
      refine w_blk bX9_firstBad_87 [.ref 3, .ref 2, .int v2, .int v3, .int v4, .retAddr 0] [.int (-1 : Int32)] (sm_hp m) [] rfl (sm_on) ?_
      obtain rfl := Option.some.inj hf
      exact w_reti dX9_firstBad_88 rfl rfl
    · replace hf := sm_iff hc hf
      replace hf := sm_ck hf
      obtain ⟨q3, hf⟩ := hf
      refine w_blk bX9_firstBad_35 [.ref 3, .ref 2, .int v2, .int v3, .int v4, .int ((m.1 2 (v4).toNatClampNeg) - (65 : Int32))] [.int (30 : Int32), .int v4] (sm_hp m) [(v4, 80)] rfl (sm_oc q3 (sm_on)) ?_
      refine w_icmp_ge (tgt := 70) dX9_firstBad_48 rfl (fun hc => ?_) (fun hc => ?_)
      · replace hf := sm_ift hc hf
        refine w_blk bX9_firstBad_70 [.ref 3, .ref 2, .int v2, .int v3, .int v4, .int ((m.1 2 (v4).toNatClampNeg) - (65 : Int32))] [.int v4] (sm_hp m) [] rfl (sm_on) ?_
        obtain rfl := Option.some.inj hf
        exact w_reti dX9_firstBad_72 rfl rfl
      · replace hf := sm_iff hc hf
        refine w_blk bX9_firstBad_51 [.ref 3, .ref 2, .int v2, .int v3, .int v4, .int ((m.1 2 (v4).toNatClampNeg) - (65 : Int32))] [.int ((m.1 2 (v4).toNatClampNeg) - (65 : Int32)), .ref 3] (sm_hp m) [] rfl (sm_on) ?_
        replace hf := sm_bd hf
        obtain ⟨r5, q4, hf⟩ := hf
        refine w_callV [.int ((m.1 2 (v4).toNatClampNeg) - (65 : Int32))] [] (tX2_hasHedge ((m.1 2 (v4).toNatClampNeg) - (65 : Int32)) m r5 q4) (cvX9_38 rfl) dX9_firstBad_54 rfl rfl (by decide) (by decide) rfl (Nat.le_of_ble_eq_true rfl) ?_
        show sm_W _ _ _ _ _ 57 [.ref 3, .ref 2, .int v2, .int v3, .int v4, .int ((m.1 2 (v4).toNatClampNeg) - (65 : Int32))] [.int r5] (sm_hp m)
        refine w_if_eq (tgt := 70) dX9_firstBad_57 rfl (fun hc => ?_) (fun hc => ?_)
        · replace hf := sm_ift hc hf
          refine w_blk bX9_firstBad_70 [.ref 3, .ref 2, .int v2, .int v3, .int v4, .int ((m.1 2 (v4).toNatClampNeg) - (65 : Int32))] [.int v4] (sm_hp m) [] rfl (sm_on) ?_
          obtain rfl := Option.some.inj hf
          exact w_reti dX9_firstBad_72 rfl rfl
        · replace hf := sm_iff hc hf
          refine w_blk bX9_firstBad_60 [.ref 3, .ref 2, .int v2, .int v3, .int v4, .int ((m.1 2 (v4).toNatClampNeg) - (65 : Int32))] [.int v3, .int ((m.1 2 (v4).toNatClampNeg) - (65 : Int32)), .ref 3] (sm_hp m) [] rfl (sm_on) ?_
          replace hf := sm_bd hf
          obtain ⟨r7, q6, hf⟩ := hf
          refine w_callV [.int ((m.1 2 (v4).toNatClampNeg) - (65 : Int32)), .int v3] [] (tX2_touches ((m.1 2 (v4).toNatClampNeg) - (65 : Int32)) v3 m r7 q6) (cvX9_41 rfl) dX9_firstBad_64 rfl rfl (by decide) (by decide) rfl (Nat.le_of_ble_eq_true rfl) ?_
          show sm_W _ _ _ _ _ 67 [.ref 3, .ref 2, .int v2, .int v3, .int v4, .int ((m.1 2 (v4).toNatClampNeg) - (65 : Int32))] [.int r7] (sm_hp m)
          refine w_if_ne (tgt := 73) dX9_firstBad_67 rfl (fun hc => ?_) (fun hc => ?_)
          · replace hf := sm_iff hc hf
            refine w_blk bX9_firstBad_73 [.ref 3, .ref 2, .int v2, .int v3, .int v4, .int ((m.1 2 (v4).toNatClampNeg) - (65 : Int32))] [.int v3, .int ((m.1 2 (v4).toNatClampNeg) - (65 : Int32)), .ref 3] (sm_hp m) [] rfl (sm_on) ?_
            replace hf := sm_bd hf
            obtain ⟨r9, q8, hf⟩ := hf
            refine w_callV [.int ((m.1 2 (v4).toNatClampNeg) - (65 : Int32)), .int v3] [] (tX2_otherEnd ((m.1 2 (v4).toNatClampNeg) - (65 : Int32)) v3 m r9 q8) (cvX9_45 rfl) dX9_firstBad_77 rfl rfl (by decide) (by decide) rfl (Nat.le_of_ble_eq_true rfl) ?_
            show sm_W _ _ _ _ _ 80 [.ref 3, .ref 2, .int v2, .int v3, .int v4, .int ((m.1 2 (v4).toNatClampNeg) - (65 : Int32))] [.int r9] (sm_hp m)
            refine w_blk bX9_firstBad_80 [.ref 3, .ref 2, .int v2, .int r9, .int (v4 + (1 : Int32)), .int ((m.1 2 (v4).toNatClampNeg) - (65 : Int32))] [] (sm_hp m) [] rfl (sm_on) ?_
            refine w_goto (tgt := 29) dX9_firstBad_84 rfl ?_
            refine w_wk [true, true, true, true, true, false] ?_
            exact ih v2 r9 (v4 + (1 : Int32)) m r hf
          · replace hf := sm_ift hc hf
            refine w_blk bX9_firstBad_70 [.ref 3, .ref 2, .int v2, .int v3, .int v4, .int ((m.1 2 (v4).toNatClampNeg) - (65 : Int32))] [.int v4] (sm_hp m) [] rfl (sm_on) ?_
            obtain rfl := Option.some.inj hf
            exact w_reti dX9_firstBad_72 rfl rfl
set_option maxRecDepth 10000 in
theorem tX9_firstBad {l : Launch} {al : Bool} (x1 : Int32) (m : sm_S) (r : Int32) (hf : fX9_firstBad x1 m = some r) : sm_Rt l mX9_firstBad 2 0 0 al al [.ref 3, .ref 2, .int x1] (sm_hp m) (some (.int r), sm_hp m) := by
  refine sm_Rt.ofW (L := [.ref 3, .ref 2, .int x1, .retAddr 0, .retAddr 0, .retAddr 0]) (by decide) (Nat.le_of_ble_eq_true rfl) rfl ?_
  unfold fX9_firstBad at hf
  refine w_blk bX9_firstBad_0 [.ref 3, .ref 2, .int x1, .retAddr 0, .retAddr 0, .retAddr 0] [.int x1] (sm_hp m) [] rfl (sm_on) ?_
  refine w_if_eq (tgt := 17) dX9_firstBad_1 rfl (fun hc => ?_) (fun hc => ?_)
  · replace hf := sm_ift hc hf
    refine w_blk bX9_firstBad_17 [.ref 3, .ref 2, .int x1, .retAddr 0, .retAddr 0, .retAddr 0] [.int (0 : Int32)] (sm_hp m) [] rfl (sm_on) ?_
    obtain rfl := Option.some.inj hf
    exact w_reti dX9_firstBad_18 rfl rfl
  · replace hf := sm_iff hc hf
    refine w_blk bX9_firstBad_4 [.ref 3, .ref 2, .int x1, .retAddr 0, .retAddr 0, .retAddr 0] [.int ((m.1 2 0) - (97 : Int32)), .ref 3] (sm_hp m) [((0 : Int32), 80)] rfl (sm_oc (by decide) (sm_on)) ?_
    replace hf := sm_bd hf
    obtain ⟨r2, q1, hf⟩ := hf
    refine w_callV [.int ((m.1 2 0) - (97 : Int32))] [] (tX2_hasCorner ((m.1 2 0) - (97 : Int32)) m r2 q1) (cvX9_32 rfl) dX9_firstBad_11 rfl rfl (by decide) (by decide) rfl (Nat.le_of_ble_eq_true rfl) ?_
    show sm_W _ _ _ _ _ 14 [.ref 3, .ref 2, .int x1, .retAddr 0, .retAddr 0, .retAddr 0] [.int r2] (sm_hp m)
    refine w_if_ne (tgt := 19) dX9_firstBad_14 rfl (fun hc => ?_) (fun hc => ?_)
    · replace hf := sm_iff hc hf
      refine w_blk bX9_firstBad_19 [.ref 3, .ref 2, .int x1, .int ((m.1 2 0) - (97 : Int32)), .int (1 : Int32), .retAddr 0] [] (sm_hp m) [((0 : Int32), 80)] rfl (sm_oc (by decide) (sm_on)) ?_
      exact tX9_firstBad_29 sm_fu x1 ((m.1 2 0) - (97 : Int32)) (1 : Int32) m r hf
    · replace hf := sm_ift hc hf
      refine w_blk bX9_firstBad_17 [.ref 3, .ref 2, .int x1, .retAddr 0, .retAddr 0, .retAddr 0] [.int (0 : Int32)] (sm_hp m) [] rfl (sm_on) ?_
      obtain rfl := Option.some.inj hf
      exact w_reti dX9_firstBad_18 rfl rfl
set_option maxRecDepth 10000 in
theorem tX9_lay_24 {l : Launch} {al : Bool} : ∀ (n : Nat) (v3 : Int32) (m : sm_S) (r : sm_S), fX9_lay_24 n v3 m = some r → sm_W l mX9_lay 1 al (none, sm_hp r) 24 [.ref 58, .ref 2, .retAddr 0, .int v3] [] (sm_hp m) := by
  intro n
  induction n with
  | zero =>
    intro v3 m r hf
    unfold fX9_lay_24 at hf
    cases hf
  | succ n ih =>
    intro v3 m r hf
    unfold fX9_lay_24 at hf
    refine w_blk bX9_lay_24 [.ref 58, .ref 2, .retAddr 0, .int v3] [.int (m.1 58 2), .int v3] (sm_hp m) [] rfl (sm_on) ?_
    refine w_icmp_ge (tgt := 52) dX9_lay_29 rfl (fun hc => ?_) (fun hc => ?_)
    · replace hf := sm_ift hc hf
      obtain rfl := Option.some.inj hf
      exact w_retv dX9_lay_52 rfl
    · replace hf := sm_iff hc hf
      replace hf := sm_ck hf
      obtain ⟨q1, hf⟩ := hf
      replace hf := sm_ck hf
      obtain ⟨q2, hf⟩ := hf
      refine w_blk bX9_lay_32 [.ref 58, .ref 2, .retAddr 0, .int (v3 + (1 : Int32))] [] (sm_hp (sm_w1 m 59 (v3).toNatClampNeg ((m.1 2 (v3 + (1 : Int32)).toNatClampNeg) - (65 : Int32)))) [((v3 + (1 : Int32)), 80), (v3, 30)] rfl (sm_oc q1 (sm_oc q2 (sm_on))) ?_
      refine w_goto (tgt := 24) dX9_lay_49 rfl ?_
      exact ih (v3 + (1 : Int32)) (sm_w1 m 59 (v3).toNatClampNeg ((m.1 2 (v3 + (1 : Int32)).toNatClampNeg) - (65 : Int32))) r hf
set_option maxRecDepth 10000 in
theorem tX9_lay {l : Launch} {al : Bool} (x1 : Int32) (m : sm_S) (r : sm_S) (hf : fX9_lay x1 m = some r) : sm_Rt l mX9_lay 1 0 0 al al [.ref 58, .ref 2, .int x1] (sm_hp m) (none, sm_hp r) := by
  refine sm_Rt.ofW (L := [.ref 58, .ref 2, .int x1, .retAddr 0]) (by decide) (Nat.le_of_ble_eq_true rfl) rfl ?_
  unfold fX9_lay at hf
  refine w_blk bX9_lay_0 [.ref 58, .ref 2, .int x1, .int (0 : Int32)] [] (sm_hp (sm_w1 (sm_w1 (sm_w1 m 58 0 (1 : Int32)) 58 1 ((m.1 2 0) - (97 : Int32))) 58 2 (x1 - (1 : Int32)))) [((0 : Int32), 80)] rfl (sm_oc (by decide) (sm_on)) ?_
  refine w_wk [true, true, false, true] ?_
  exact tX9_lay_24 sm_fu (0 : Int32) (sm_w1 (sm_w1 (sm_w1 m 58 0 (1 : Int32)) 58 1 ((m.1 2 0) - (97 : Int32))) 58 2 (x1 - (1 : Int32))) r hf
set_option maxRecDepth 10000 in
theorem tX9_schedule_19 {l : Launch} {al : Bool} : ∀ (n : Nat) (v2 : Int32) (m : sm_S) (r : Int32 × sm_S), fX9_schedule_19 n v2 m = some r → sm_W l mX9_schedule 2 al (some (.int r.1), sm_hp r.2) 19 [.ref 58, .ref 3, .int v2, .retAddr 0] [] (sm_hp m) := by
  intro n
  induction n with
  | zero =>
    intro v2 m r hf
    unfold fX9_schedule_19 at hf
    cases hf
  | succ n ih =>
    intro v2 m r hf
    unfold fX9_schedule_19 at hf
    refine w_blk bX9_schedule_19 [.ref 58, .ref 3, .int v2, .retAddr 0] [.int (m.1 58 2), .int v2] (sm_hp m) [] rfl (sm_on) ?_
    refine w_icmp_ge (tgt := 85) dX9_schedule_24 rfl (fun hc => ?_) (fun hc => ?_)
    · replace hf := sm_ift hc hf
      replace hf := sm_ck hf
      obtain ⟨q1, hf⟩ := hf
      refine w_blk bX9_schedule_85 [.ref 58, .ref 3, .int v2, .retAddr 0] [.int (m.1 61 (m.1 58 2).toNatClampNeg)] (sm_hp m) [((m.1 58 2), 30)] rfl (sm_oc q1 (sm_on)) ?_
      obtain rfl := Option.some.inj hf
      exact w_reti dX9_schedule_94 rfl rfl
    · replace hf := sm_iff hc hf
      replace hf := sm_ck hf
      obtain ⟨q2, hf⟩ := hf
      replace hf := sm_ck hf
      obtain ⟨q3, hf⟩ := hf
      replace hf := sm_ck hf
      obtain ⟨q4, hf⟩ := hf
      refine w_blk bX9_schedule_27 [.ref 58, .ref 3, .int v2, .int (m.1 59 (v2).toNatClampNeg)] [.int (m.1 60 (v2).toNatClampNeg), .int (m.1 59 (v2).toNatClampNeg), .ref 3, .int (m.1 61 (v2).toNatClampNeg), .int (v2 + (1 : Int32)), .ref 61] (sm_hp m) [(v2, 30), (v2, 30), (v2, 30)] rfl (sm_oc q2 (sm_oc q3 (sm_oc q4 (sm_on)))) ?_
      replace hf := sm_bd hf
      obtain ⟨r6, q5, hf⟩ := hf
      refine w_callV [.int (m.1 59 (v2).toNatClampNeg), .int (m.1 60 (v2).toNatClampNeg)] [.int (m.1 61 (v2).toNatClampNeg), .int (v2 + (1 : Int32)), .ref 61] (tX2_minutesFrom (m.1 59 (v2).toNatClampNeg) (m.1 60 (v2).toNatClampNeg) m r6 q5) (cvX9_49 rfl) dX9_schedule_55 rfl rfl (by decide) (by decide) rfl (Nat.le_of_ble_eq_true rfl) ?_
      show sm_W _ _ _ _ _ 58 [.ref 58, .ref 3, .int v2, .int (m.1 59 (v2).toNatClampNeg)] [.int r6, .int (m.1 61 (v2).toNatClampNeg), .int (v2 + (1 : Int32)), .ref 61] (sm_hp m)
      replace hf := sm_ck hf
      obtain ⟨q7, hf⟩ := hf
      replace hf := sm_ck hf
      obtain ⟨q8, hf⟩ := hf
      refine w_blk bX9_schedule_58 [.ref 58, .ref 3, .int v2, .int (m.1 59 (v2).toNatClampNeg)] [.int (m.1 60 (v2).toNatClampNeg), .int (m.1 59 (v2).toNatClampNeg), .ref 3, .int (v2 + (1 : Int32)), .ref 60] (sm_hp (sm_w1 m 61 (v2 + (1 : Int32)).toNatClampNeg ((m.1 61 (v2).toNatClampNeg) + r6))) [((v2 + (1 : Int32)), 30), (v2, 30)] rfl (sm_oc q7 (sm_oc q8 (sm_on))) ?_
      replace hf := sm_bd hf
      obtain ⟨r10, q9, hf⟩ := hf
      refine w_callV [.int (m.1 59 (v2).toNatClampNeg), .int (m.1 60 (v2).toNatClampNeg)] [.int (v2 + (1 : Int32)), .ref 60] (tX2_otherEnd (m.1 59 (v2).toNatClampNeg) (m.1 60 (v2).toNatClampNeg) (sm_w1 m 61 (v2 + (1 : Int32)).toNatClampNeg ((m.1 61 (v2).toNatClampNeg) + r6)) r10 q9) (cvX9_45 rfl) dX9_schedule_75 rfl rfl (by decide) (by decide) rfl (Nat.le_of_ble_eq_true rfl) ?_
      show sm_W _ _ _ _ _ 78 [.ref 58, .ref 3, .int v2, .int (m.1 59 (v2).toNatClampNeg)] [.int r10, .int (v2 + (1 : Int32)), .ref 60] (sm_hp (sm_w1 m 61 (v2 + (1 : Int32)).toNatClampNeg ((m.1 61 (v2).toNatClampNeg) + r6)))
      replace hf := sm_ck hf
      obtain ⟨q11, hf⟩ := hf
      refine w_blk bX9_schedule_78 [.ref 58, .ref 3, .int (v2 + (1 : Int32)), .int (m.1 59 (v2).toNatClampNeg)] [] (sm_hp (sm_w1 (sm_w1 m 61 (v2 + (1 : Int32)).toNatClampNeg ((m.1 61 (v2).toNatClampNeg) + r6)) 60 (v2 + (1 : Int32)).toNatClampNeg r10)) [((v2 + (1 : Int32)), 30)] rfl (sm_oc q11 (sm_on)) ?_
      refine w_goto (tgt := 19) dX9_schedule_82 rfl ?_
      refine w_wk [true, true, true, false] ?_
      exact ih (v2 + (1 : Int32)) (sm_w1 (sm_w1 m 61 (v2 + (1 : Int32)).toNatClampNeg ((m.1 61 (v2).toNatClampNeg) + r6)) 60 (v2 + (1 : Int32)).toNatClampNeg r10) r hf
set_option maxRecDepth 10000 in
theorem tX9_schedule {l : Launch} {al : Bool} (m : sm_S) (r : Int32 × sm_S) (hf : fX9_schedule m = some r) : sm_Rt l mX9_schedule 2 0 0 al al [.ref 58, .ref 3] (sm_hp m) (some (.int r.1), sm_hp r.2) := by
  refine sm_Rt.ofW (L := [.ref 58, .ref 3, .retAddr 0, .retAddr 0]) (by decide) (Nat.le_of_ble_eq_true rfl) rfl ?_
  unfold fX9_schedule at hf
  refine w_blk bX9_schedule_0 [.ref 58, .ref 3, .int (0 : Int32), .retAddr 0] [] (sm_hp (sm_w1 (sm_w1 m 60 0 (m.1 58 1)) 61 0 (0 : Int32))) [((0 : Int32), 30), ((0 : Int32), 30)] rfl (sm_oc (by decide) (sm_oc (by decide) (sm_on))) ?_
  exact tX9_schedule_19 sm_fu (0 : Int32) (sm_w1 (sm_w1 m 60 0 (m.1 58 1)) 61 0 (0 : Int32)) r hf
set_option maxRecDepth 10000 in
theorem tX5_clear {l : Launch} {al : Bool} (m : sm_S) (r : sm_S) (hf : fX5_clear m = some r) : sm_Rt l mX5_clear 1 0 0 al al [.ref 14] (sm_hp m) (none, sm_hp r) := by
  refine sm_Rt.ofW (L := [.ref 14]) (by decide) (Nat.le_of_ble_eq_true rfl) rfl ?_
  unfold fX5_clear at hf
  refine w_blk bX5_clear_0 [.ref 14] [] (sm_hp (sm_w1 m 14 1 (0 : Int32))) [] rfl (sm_on) ?_
  obtain rfl := Option.some.inj hf
  exact w_retv dX5_clear_5 rfl
set_option maxRecDepth 10000 in
theorem tX5_add {l : Launch} {al : Bool} (x1 : Int32) (m : sm_S) (r : sm_S) (hf : fX5_add x1 m = some r) : sm_Rt l mX5_add 1 0 0 al al [.ref 14, .int x1] (sm_hp m) (none, sm_hp r) := by
  refine sm_Rt.ofW (L := [.ref 14, .int x1]) (by decide) (Nat.le_of_ble_eq_true rfl) rfl ?_
  unfold fX5_add at hf
  refine w_blk bX5_add_0 [.ref 14, .int x1] [.int (14 : Int32), .int (m.1 14 1)] (sm_hp m) [] rfl (sm_on) ?_
  refine w_icmp_ge (tgt := 29) dX5_add_6 rfl (fun hc => ?_) (fun hc => ?_)
  · replace hf := sm_ift hc hf
    obtain rfl := Option.some.inj hf
    exact w_retv dX5_add_29 rfl
  · replace hf := sm_iff hc hf
    replace hf := sm_ck hf
    obtain ⟨q1, hf⟩ := hf
    refine w_blk bX5_add_9 [.ref 14, .int x1] [] (sm_hp (sm_w1 (sm_w1 m 15 (m.1 14 1).toNatClampNeg x1) 14 1 ((m.1 14 1) + (1 : Int32)))) [((m.1 14 1), 14)] rfl (sm_oc q1 (sm_on)) ?_
    obtain rfl := Option.some.inj hf
    exact w_retv dX5_add_29 rfl
set_option maxRecDepth 10000 in
theorem tX5_tell {l : Launch} {al : Bool} (x1 : Int32) (m : sm_S) (r : sm_S) (hf : fX5_tell x1 m = some r) : sm_Rt l mX5_tell 2 0 0 al al [.ref 14, .int x1] (sm_hp m) (none, sm_hp r) := by
  refine sm_Rt.ofW (L := [.ref 14, .int x1]) (by decide) (Nat.le_of_ble_eq_true rfl) rfl ?_
  unfold fX5_tell at hf
  refine w_blk bX5_tell_0 [.ref 14, .int x1] [.ref 14] (sm_hp m) [] rfl (sm_on) ?_
  replace hf := sm_bd hf
  obtain ⟨m2, q1, hf⟩ := hf
  refine w_callV [] [] (tX5_clear m m2 q1) (cvX5_19 rfl) dX5_tell_1 rfl rfl (by decide) (by decide) rfl (Nat.le_of_ble_eq_true rfl) ?_
  show sm_W _ _ _ _ _ 4 [.ref 14, .int x1] [] (sm_hp m2)
  refine w_blk bX5_tell_4 [.ref 14, .int x1] [.int x1, .ref 14] (sm_hp m2) [] rfl (sm_on) ?_
  replace hf := sm_bd hf
  obtain ⟨m4, q3, hf⟩ := hf
  refine w_callV [.int x1] [] (tX5_add x1 m2 m4 q3) (cvX5_22 rfl) dX5_tell_6 rfl rfl (by decide) (by decide) rfl (Nat.le_of_ble_eq_true rfl) ?_
  show sm_W _ _ _ _ _ 9 [.ref 14, .int x1] [] (sm_hp m4)
  obtain rfl := Option.some.inj hf
  exact w_retv dX5_tell_9 rfl
set_option maxRecDepth 10000 in
theorem tX9_bits_4 {l : Launch} {al : Bool} : ∀ (n : Nat) (v1 : Int32) (v2 : Int32) (m : sm_S) (r : Int32), fX9_bits_4 n v1 v2 m = some r → sm_W l mX9_bits 1 al (some (.int r), sm_hp m) 4 [.ref 58, .int v1, .int v2] [] (sm_hp m) := by
  intro n
  induction n with
  | zero =>
    intro v1 v2 m r hf
    unfold fX9_bits_4 at hf
    cases hf
  | succ n ih =>
    intro v1 v2 m r hf
    unfold fX9_bits_4 at hf
    refine w_blk bX9_bits_4 [.ref 58, .int v1, .int v2] [.int (m.1 58 2), .int v2] (sm_hp m) [] rfl (sm_on) ?_
    refine w_icmp_ge (tgt := 29) dX9_bits_9 rfl (fun hc => ?_) (fun hc => ?_)
    · replace hf := sm_ift hc hf
      refine w_blk bX9_bits_29 [.ref 58, .int v1, .int v2] [.int v1] (sm_hp m) [] rfl (sm_on) ?_
      obtain rfl := Option.some.inj hf
      exact w_reti dX9_bits_30 rfl rfl
    · replace hf := sm_iff hc hf
      replace hf := sm_ck hf
      obtain ⟨q1, hf⟩ := hf
      refine w_blk bX9_bits_12 [.ref 58, .int (v1 ||| ((1 : Int32) <<< ((m.1 59 (v2).toNatClampNeg) &&& 31))), .int (v2 + (1 : Int32))] [] (sm_hp m) [(v2, 30)] rfl (sm_oc q1 (sm_on)) ?_
      refine w_goto (tgt := 4) dX9_bits_26 rfl ?_
      exact ih (v1 ||| ((1 : Int32) <<< ((m.1 59 (v2).toNatClampNeg) &&& 31))) (v2 + (1 : Int32)) m r hf
set_option maxRecDepth 10000 in
theorem tX9_bits {l : Launch} {al : Bool} (m : sm_S) (r : Int32) (hf : fX9_bits m = some r) : sm_Rt l mX9_bits 1 0 0 al al [.ref 58] (sm_hp m) (some (.int r), sm_hp m) := by
  refine sm_Rt.ofW (L := [.ref 58, .retAddr 0, .retAddr 0]) (by decide) (Nat.le_of_ble_eq_true rfl) rfl ?_
  unfold fX9_bits at hf
  refine w_blk bX9_bits_0 [.ref 58, .int (0 : Int32), .int (0 : Int32)] [] (sm_hp m) [] rfl (sm_on) ?_
  exact tX9_bits_4 sm_fu (0 : Int32) (0 : Int32) m r hf
set_option maxRecDepth 10000 in
theorem tX9_lay_i1_24 {l : Launch} {al : Bool} : ∀ (n : Nat) (v3 : Int32) (m : sm_S) (r : sm_S), fX9_lay_i1_24 n v3 m = some r → sm_W l mX9_lay 1 al (none, sm_hp r) 24 [.ref 62, .ref 2, .retAddr 0, .int v3] [] (sm_hp m) := by
  intro n
  induction n with
  | zero =>
    intro v3 m r hf
    unfold fX9_lay_i1_24 at hf
    cases hf
  | succ n ih =>
    intro v3 m r hf
    unfold fX9_lay_i1_24 at hf
    refine w_blk bX9_lay_24 [.ref 62, .ref 2, .retAddr 0, .int v3] [.int (m.1 62 2), .int v3] (sm_hp m) [] rfl (sm_on) ?_
    refine w_icmp_ge (tgt := 52) dX9_lay_29 rfl (fun hc => ?_) (fun hc => ?_)
    · replace hf := sm_ift hc hf
      obtain rfl := Option.some.inj hf
      exact w_retv dX9_lay_52 rfl
    · replace hf := sm_iff hc hf
      replace hf := sm_ck hf
      obtain ⟨q1, hf⟩ := hf
      replace hf := sm_ck hf
      obtain ⟨q2, hf⟩ := hf
      refine w_blk bX9_lay_32 [.ref 62, .ref 2, .retAddr 0, .int (v3 + (1 : Int32))] [] (sm_hp (sm_w1 m 63 (v3).toNatClampNeg ((m.1 2 (v3 + (1 : Int32)).toNatClampNeg) - (65 : Int32)))) [((v3 + (1 : Int32)), 80), (v3, 30)] rfl (sm_oc q1 (sm_oc q2 (sm_on))) ?_
      refine w_goto (tgt := 24) dX9_lay_49 rfl ?_
      exact ih (v3 + (1 : Int32)) (sm_w1 m 63 (v3).toNatClampNeg ((m.1 2 (v3 + (1 : Int32)).toNatClampNeg) - (65 : Int32))) r hf
set_option maxRecDepth 10000 in
theorem tX9_lay_i1 {l : Launch} {al : Bool} (x1 : Int32) (m : sm_S) (r : sm_S) (hf : fX9_lay_i1 x1 m = some r) : sm_Rt l mX9_lay 1 0 0 al al [.ref 62, .ref 2, .int x1] (sm_hp m) (none, sm_hp r) := by
  refine sm_Rt.ofW (L := [.ref 62, .ref 2, .int x1, .retAddr 0]) (by decide) (Nat.le_of_ble_eq_true rfl) rfl ?_
  unfold fX9_lay_i1 at hf
  refine w_blk bX9_lay_0 [.ref 62, .ref 2, .int x1, .int (0 : Int32)] [] (sm_hp (sm_w1 (sm_w1 (sm_w1 m 62 0 (1 : Int32)) 62 1 ((m.1 2 0) - (97 : Int32))) 62 2 (x1 - (1 : Int32)))) [((0 : Int32), 80)] rfl (sm_oc (by decide) (sm_on)) ?_
  refine w_wk [true, true, false, true] ?_
  exact tX9_lay_i1_24 sm_fu (0 : Int32) (sm_w1 (sm_w1 (sm_w1 m 62 0 (1 : Int32)) 62 1 ((m.1 2 0) - (97 : Int32))) 62 2 (x1 - (1 : Int32))) r hf
