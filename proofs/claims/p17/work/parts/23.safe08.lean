theorem zX1_fewestMinutes_28 (m0 : sm_S) : ∀ (n : Nat) (v2 : Int32) (v3 : Int32) (v4 : Int32) (m : sm_S), (0 ≤ v2.toInt ∧ v2.toInt ≤ 9 ∧ 0 ≤ v3.toInt ∧ v3.toInt ≤ 16383 ∧ (-1 : Int) ≤ v4.toInt ∧ v4.toInt ≤ 16383 ∧ v4.toInt + 1 < (n : Int)) → zI m → Fr wX1_fewestMinutes m0 m → Sf (fun r => (((-1 : Int) ≤ r.1.toInt) ∧ (r.1.toInt ≤ 65534)) ∧ zI r.2 ∧ Fr wX1_fewestMinutes m0 r.2) (fX1_fewestMinutes_28 n v2 v3 v4 m) := by
  intro n
  induction n with
  | zero =>
    intro v2 v3 v4 m hp hI hF
    exfalso
    omega
  | succ n ih =>
    intro v2 v3 v4 m hp hI hF
    have hnn : ((n + 1 : Nat) : Int) = (n : Int) + 1 := by omega
    have hfu := fuE
    unfold fX1_fewestMinutes_28
    have kc1 := L0
    refine s_lt (fun kh2 => ?_) (fun kh2 => ?_)
    · refine s_bd (zX1_placeOf (0 : Int32) v2 m (show 0 ≤ (0 : Int32).toInt ∧ (0 : Int32).toInt ≤ 16383 ∧ 0 ≤ v2.toInt ∧ v2.toInt ≤ 9 by omega) hI) (fun r6 kr3 => ?_)
      refine s_bd (zX3_at_i2 r6 m hI) (fun r8 kr4 => ?_)
      replace kr4 : (0 ≤ r8.toInt) ∧ (r8.toInt ≤ 65535) := kr4
      have kc5 := L65535
      refine s_le (fun kh6 => ?_) (fun kh6 => ?_)
      · have kc7 := Ln1
        exact s_ret ⟨(show ((-1 : Int) ≤ (-1 : Int32).toInt) ∧ ((-1 : Int32).toInt ≤ 65534) by omega), hI, hF⟩
      · exact s_ret ⟨(show ((-1 : Int) ≤ r8.toInt) ∧ (r8.toInt ≤ 65534) by omega), hI, hF⟩
    · refine s_bd (zX1_partAfter v2 v4 m (show 0 ≤ v2.toInt ∧ v2.toInt ≤ 9 ∧ 0 ≤ v4.toInt ∧ v4.toInt ≤ 16383 by omega) hI) (fun r10 kr8 => ?_)
      replace kr8 : (0 ≤ r10.toInt) ∧ (r10.toInt ≤ 1023) := kr8
      exact zX1_fewestMinutes_46 m0 (fX1_fewestMinutes_28 n) n ih sm_fu v2 v3 v4 r10 (0 : Int32) m (show 0 ≤ v2.toInt ∧ v2.toInt ≤ 9 ∧ 0 ≤ v3.toInt ∧ v3.toInt ≤ 16383 ∧ 0 ≤ v4.toInt ∧ v4.toInt ≤ 16383 ∧ 0 ≤ r10.toInt ∧ r10.toInt ≤ 1023 ∧ 0 ≤ (0 : Int32).toInt ∧ (0 : Int32).toInt ≤ 10 ∧ 10 - (0 : Int32).toInt < (sm_fu : Int) ∧ v4.toInt + 1 ≤ (n : Int) by omega) hI hF
theorem zX1_fewestMinutes (x1 : Int32) (m : sm_S) (hp : 0 ≤ x1.toInt ∧ x1.toInt ≤ 9) (hI : zI m) : Sf (fun r => (((-1 : Int) ≤ r.1.toInt) ∧ (r.1.toInt ≤ 65534)) ∧ zI r.2 ∧ Fr wX1_fewestMinutes m r.2) (fX1_fewestMinutes x1 m) := by
  have hfu := fuE
  unfold fX1_fewestMinutes
  have kc1 := L1
  have kc2 : 0 ≤ (m.1 34 1).toInt ∧ (m.1 34 1).toInt ≤ 14 := hI.1 34 1
  have kc3 := L31
  have kc4 : 0 ≤ ((m.1 34 1) &&& (31 : Int32)).toInt ∧ ((m.1 34 1) &&& (31 : Int32)).toInt ≤ ((31 : Int32)).toInt := a_andr (by omega)
  have kc5 : 0 ≤ ((m.1 34 1) &&& (31 : Int32)).toInt ∧ ((m.1 34 1) &&& (31 : Int32)).toInt ≤ ((m.1 34 1)).toInt := a_andl (by omega)
  have kc6 : 1 ≤ ((1 : Int32) <<< ((m.1 34 1) &&& (31 : Int32))).toInt ∧ ((1 : Int32) <<< ((m.1 34 1) &&& (31 : Int32))).toInt ≤ 16384 := a_shl 14 (by decide) (by decide) (by omega) (by omega)
  have kc7 : (((1 : Int32) <<< ((m.1 34 1) &&& (31 : Int32))) - (1 : Int32)).toInt = (((1 : Int32) <<< ((m.1 34 1) &&& (31 : Int32)))).toInt - 1 := a_subl L1 (by omega) (by omega)
  refine s_bd (zX1_partAfter x1 (((1 : Int32) <<< ((m.1 34 1) &&& (31 : Int32))) - (1 : Int32)) m (show 0 ≤ x1.toInt ∧ x1.toInt ≤ 9 ∧ 0 ≤ (((1 : Int32) <<< ((m.1 34 1) &&& (31 : Int32))) - (1 : Int32)).toInt ∧ (((1 : Int32) <<< ((m.1 34 1) &&& (31 : Int32))) - (1 : Int32)).toInt ≤ 16383 by omega) hI) (fun r2 kr8 => ?_)
  replace kr8 : (0 ≤ r2.toInt) ∧ (r2.toInt ≤ 1023) := kr8
  refine s_bd (zJ6_bitCount_0f7a4 r2 m (show 0 ≤ r2.toInt ∧ r2.toInt ≤ 16383 by omega) hI) (fun r4 kr9 => ?_)
  replace kr9 : (0 ≤ r4.toInt) ∧ (r4.toInt ≤ 63) := kr9
  refine s_eq (fun kh10 => ?_) (fun kh10 => ?_)
  · exact zX1_fewestMinutes_28 m sm_fu x1 (((1 : Int32) <<< ((m.1 34 1) &&& (31 : Int32))) - (1 : Int32)) (((1 : Int32) <<< ((m.1 34 1) &&& (31 : Int32))) - (1 : Int32)) m (show 0 ≤ x1.toInt ∧ x1.toInt ≤ 9 ∧ 0 ≤ (((1 : Int32) <<< ((m.1 34 1) &&& (31 : Int32))) - (1 : Int32)).toInt ∧ (((1 : Int32) <<< ((m.1 34 1) &&& (31 : Int32))) - (1 : Int32)).toInt ≤ 16383 ∧ (-1 : Int) ≤ (((1 : Int32) <<< ((m.1 34 1) &&& (31 : Int32))) - (1 : Int32)).toInt ∧ (((1 : Int32) <<< ((m.1 34 1) &&& (31 : Int32))) - (1 : Int32)).toInt ≤ 16383 ∧ (((1 : Int32) <<< ((m.1 34 1) &&& (31 : Int32))) - (1 : Int32)).toInt + 1 < (sm_fu : Int) by omega) hI Fr.refl
  · have kc11 := Ln1
    exact s_ret ⟨(show ((-1 : Int) ≤ (-1 : Int32).toInt) ∧ ((-1 : Int32).toInt ≤ 65534) by omega), hI, Fr.refl⟩
theorem zX1_endsOfBest_15 : ∀ (n : Nat) (v2 : Int32) (v3 : Int32) (v4 : Int32) (v5 : Int32) (v6 : Int32) (v7 : Int32) (m : sm_S), (0 ≤ v2.toInt ∧ v2.toInt ≤ 16383 ∧ 1 ≤ v3.toInt ∧ v3.toInt ≤ 1023 ∧ 0 ≤ v4.toInt ∧ v4.toInt ≤ 13 ∧ 0 ≤ v5.toInt ∧ v5.toInt ≤ 13 ∧ 0 ≤ v6.toInt ∧ v6.toInt ≤ 1023 ∧ 0 ≤ v7.toInt ∧ v7.toInt ≤ 10 ∧ 10 - v7.toInt < (n : Int)) → zI m → Sf (fun r => (0 ≤ r.toInt) ∧ (r.toInt ≤ 1023)) (fX1_endsOfBest_15 n v2 v3 v4 v5 v6 v7 m) := by
  intro n
  induction n with
  | zero =>
    intro v2 v3 v4 v5 v6 v7 m hp hI
    exfalso
    omega
  | succ n ih =>
    intro v2 v3 v4 v5 v6 v7 m hp hI
    have hnn : ((n + 1 : Nat) : Int) = (n : Int) + 1 := by omega
    have hfu := fuE
    unfold fX1_endsOfBest_15
    have kc1 : 0 ≤ (m.1 3 0).toInt ∧ (m.1 3 0).toInt ≤ 10 := hI.1 3 0
    refine s_le (fun kh2 => ?_) (fun kh2 => ?_)
    · exact s_ret (show (0 ≤ v6.toInt) ∧ (v6.toInt ≤ 1023) by omega)
    · have kc3 := L31
      have kc4 : 0 ≤ (v7 &&& (31 : Int32)).toInt ∧ (v7 &&& (31 : Int32)).toInt ≤ ((31 : Int32)).toInt := a_andr (by omega)
      have kc5 : 0 ≤ (v7 &&& (31 : Int32)).toInt ∧ (v7 &&& (31 : Int32)).toInt ≤ (v7).toInt := a_andl (by omega)
      have kc6 : 0 ≤ (v3 >>> (v7 &&& (31 : Int32))).toInt ∧ (v3 >>> (v7 &&& (31 : Int32))).toInt ≤ (v3).toInt := a_shr (by omega)
      have kc7 := L1
      have kc8 : 0 ≤ ((v3 >>> (v7 &&& (31 : Int32))) &&& (1 : Int32)).toInt ∧ ((v3 >>> (v7 &&& (31 : Int32))) &&& (1 : Int32)).toInt ≤ ((1 : Int32)).toInt := a_andr (by omega)
      have kc9 : 0 ≤ ((v3 >>> (v7 &&& (31 : Int32))) &&& (1 : Int32)).toInt ∧ ((v3 >>> (v7 &&& (31 : Int32))) &&& (1 : Int32)).toInt ≤ ((v3 >>> (v7 &&& (31 : Int32)))).toInt := a_andl (by omega)
      have kc10 := L0
      refine s_eq (fun kh11 => ?_) (fun kh11 => ?_)
      · have kc12 : (v7 + (1 : Int32)).toInt = (v7).toInt + 1 := a_addl L1 (by omega) (by omega)
        exact ih v2 v3 v4 v5 v6 (v7 + (1 : Int32)) m (show 0 ≤ v2.toInt ∧ v2.toInt ≤ 16383 ∧ 1 ≤ v3.toInt ∧ v3.toInt ≤ 1023 ∧ 0 ≤ v4.toInt ∧ v4.toInt ≤ 13 ∧ 0 ≤ v5.toInt ∧ v5.toInt ≤ 13 ∧ 0 ≤ v6.toInt ∧ v6.toInt ≤ 1023 ∧ 0 ≤ (v7 + (1 : Int32)).toInt ∧ (v7 + (1 : Int32)).toInt ≤ 10 ∧ 10 - (v7 + (1 : Int32)).toInt < (n : Int) by omega) hI
      · refine s_bd (zX1_placeOf v2 v7 m (show 0 ≤ v2.toInt ∧ v2.toInt ≤ 16383 ∧ 0 ≤ v7.toInt ∧ v7.toInt ≤ 9 by omega) hI) (fun r3 kr13 => ?_)
        refine s_bd (zX3_at_i2 r3 m hI) (fun r5 kr14 => ?_)
        replace kr14 : (0 ≤ r5.toInt) ∧ (r5.toInt ≤ 65535) := kr14
        have kx15 : 0 ≤ (v5).toInt ∧ (v5).toInt < (14 : Int) := by omega
        refine s_ix kx15 ?_
        have kc16 : 0 ≤ (m.1 6 (v5).toNatClampNeg).toInt ∧ (m.1 6 (v5).toNatClampNeg).toInt ≤ 9 := hI.1 6 (v5).toNatClampNeg
        refine s_bd (zX1_minutesBy v2 v7 v4 (m.1 6 (v5).toNatClampNeg) m (show 0 ≤ v2.toInt ∧ v2.toInt ≤ 16383 ∧ 0 ≤ v7.toInt ∧ v7.toInt ≤ 9 ∧ 0 ≤ v4.toInt ∧ v4.toInt ≤ 13 ∧ 0 ≤ (m.1 6 (v5).toNatClampNeg).toInt ∧ (m.1 6 (v5).toNatClampNeg).toInt ≤ 9 by omega) hI) (fun r8 kr17 => ?_)
        have kc18 := rg r8
        replace kr17 : (r8.toInt ≤ 65535) := kr17
        refine s_eq (fun kh19 => ?_) (fun kh19 => ?_)
        · refine s_ix kx15 ?_
          refine s_ix kx15 ?_
          have kc20 : 0 ≤ (m.1 7 (v5).toNatClampNeg).toInt ∧ (m.1 7 (v5).toNatClampNeg).toInt ≤ 9 := hI.1 7 (v5).toNatClampNeg
          refine s_bd (zX1_minutesBy v2 v7 v4 (m.1 7 (v5).toNatClampNeg) m (show 0 ≤ v2.toInt ∧ v2.toInt ≤ 16383 ∧ 0 ≤ v7.toInt ∧ v7.toInt ≤ 9 ∧ 0 ≤ v4.toInt ∧ v4.toInt ≤ 13 ∧ 0 ≤ (m.1 7 (v5).toNatClampNeg).toInt ∧ (m.1 7 (v5).toNatClampNeg).toInt ≤ 9 by omega) hI) (fun r16 kr21 => ?_)
          have kc22 := rg r16
          replace kr21 : (r16.toInt ≤ 65535) := kr21
          refine s_eq (fun kh23 => ?_) (fun kh23 => ?_)
          · refine s_ix kx15 ?_
            have kc24 : 0 ≤ ((m.1 7 (v5).toNatClampNeg) &&& (31 : Int32)).toInt ∧ ((m.1 7 (v5).toNatClampNeg) &&& (31 : Int32)).toInt ≤ ((31 : Int32)).toInt := a_andr (by omega)
            have kc25 : 0 ≤ ((m.1 7 (v5).toNatClampNeg) &&& (31 : Int32)).toInt ∧ ((m.1 7 (v5).toNatClampNeg) &&& (31 : Int32)).toInt ≤ ((m.1 7 (v5).toNatClampNeg)).toInt := a_andl (by omega)
            have kc26 : 1 ≤ ((1 : Int32) <<< ((m.1 7 (v5).toNatClampNeg) &&& (31 : Int32))).toInt ∧ ((1 : Int32) <<< ((m.1 7 (v5).toNatClampNeg) &&& (31 : Int32))).toInt ≤ 512 := a_shl 9 (by decide) (by decide) (by omega) (by omega)
            have kc27 : 0 ≤ (v6 ||| ((1 : Int32) <<< ((m.1 7 (v5).toNatClampNeg) &&& (31 : Int32)))).toInt ∧ (v6 ||| ((1 : Int32) <<< ((m.1 7 (v5).toNatClampNeg) &&& (31 : Int32)))).toInt < 1024 := a_or 10 (by decide) (by decide) (by omega) (by omega) (by omega) (by omega)
            have kc28 : 0 ≤ ((m.1 6 (v5).toNatClampNeg) &&& (31 : Int32)).toInt ∧ ((m.1 6 (v5).toNatClampNeg) &&& (31 : Int32)).toInt ≤ ((31 : Int32)).toInt := a_andr (by omega)
            have kc29 : 0 ≤ ((m.1 6 (v5).toNatClampNeg) &&& (31 : Int32)).toInt ∧ ((m.1 6 (v5).toNatClampNeg) &&& (31 : Int32)).toInt ≤ ((m.1 6 (v5).toNatClampNeg)).toInt := a_andl (by omega)
            have kc30 : 1 ≤ ((1 : Int32) <<< ((m.1 6 (v5).toNatClampNeg) &&& (31 : Int32))).toInt ∧ ((1 : Int32) <<< ((m.1 6 (v5).toNatClampNeg) &&& (31 : Int32))).toInt ≤ 512 := a_shl 9 (by decide) (by decide) (by omega) (by omega)
            have kc31 : 0 ≤ ((v6 ||| ((1 : Int32) <<< ((m.1 7 (v5).toNatClampNeg) &&& (31 : Int32)))) ||| ((1 : Int32) <<< ((m.1 6 (v5).toNatClampNeg) &&& (31 : Int32)))).toInt ∧ ((v6 ||| ((1 : Int32) <<< ((m.1 7 (v5).toNatClampNeg) &&& (31 : Int32)))) ||| ((1 : Int32) <<< ((m.1 6 (v5).toNatClampNeg) &&& (31 : Int32)))).toInt < 1024 := a_or 10 (by decide) (by decide) (by omega) (by omega) (by omega) (by omega)
            have kc32 : (v7 + (1 : Int32)).toInt = (v7).toInt + 1 := a_addl L1 (by omega) (by omega)
            exact ih v2 v3 v4 v5 ((v6 ||| ((1 : Int32) <<< ((m.1 7 (v5).toNatClampNeg) &&& (31 : Int32)))) ||| ((1 : Int32) <<< ((m.1 6 (v5).toNatClampNeg) &&& (31 : Int32)))) (v7 + (1 : Int32)) m (show 0 ≤ v2.toInt ∧ v2.toInt ≤ 16383 ∧ 1 ≤ v3.toInt ∧ v3.toInt ≤ 1023 ∧ 0 ≤ v4.toInt ∧ v4.toInt ≤ 13 ∧ 0 ≤ v5.toInt ∧ v5.toInt ≤ 13 ∧ 0 ≤ ((v6 ||| ((1 : Int32) <<< ((m.1 7 (v5).toNatClampNeg) &&& (31 : Int32)))) ||| ((1 : Int32) <<< ((m.1 6 (v5).toNatClampNeg) &&& (31 : Int32)))).toInt ∧ ((v6 ||| ((1 : Int32) <<< ((m.1 7 (v5).toNatClampNeg) &&& (31 : Int32)))) ||| ((1 : Int32) <<< ((m.1 6 (v5).toNatClampNeg) &&& (31 : Int32)))).toInt ≤ 1023 ∧ 0 ≤ (v7 + (1 : Int32)).toInt ∧ (v7 + (1 : Int32)).toInt ≤ 10 ∧ 10 - (v7 + (1 : Int32)).toInt < (n : Int) by omega) hI
          · have kc33 : 0 ≤ ((m.1 7 (v5).toNatClampNeg) &&& (31 : Int32)).toInt ∧ ((m.1 7 (v5).toNatClampNeg) &&& (31 : Int32)).toInt ≤ ((31 : Int32)).toInt := a_andr (by omega)
            have kc34 : 0 ≤ ((m.1 7 (v5).toNatClampNeg) &&& (31 : Int32)).toInt ∧ ((m.1 7 (v5).toNatClampNeg) &&& (31 : Int32)).toInt ≤ ((m.1 7 (v5).toNatClampNeg)).toInt := a_andl (by omega)
            have kc35 : 1 ≤ ((1 : Int32) <<< ((m.1 7 (v5).toNatClampNeg) &&& (31 : Int32))).toInt ∧ ((1 : Int32) <<< ((m.1 7 (v5).toNatClampNeg) &&& (31 : Int32))).toInt ≤ 512 := a_shl 9 (by decide) (by decide) (by omega) (by omega)
            have kc36 : 0 ≤ (v6 ||| ((1 : Int32) <<< ((m.1 7 (v5).toNatClampNeg) &&& (31 : Int32)))).toInt ∧ (v6 ||| ((1 : Int32) <<< ((m.1 7 (v5).toNatClampNeg) &&& (31 : Int32)))).toInt < 1024 := a_or 10 (by decide) (by decide) (by omega) (by omega) (by omega) (by omega)
            have kc37 : (v7 + (1 : Int32)).toInt = (v7).toInt + 1 := a_addl L1 (by omega) (by omega)
            exact ih v2 v3 v4 v5 (v6 ||| ((1 : Int32) <<< ((m.1 7 (v5).toNatClampNeg) &&& (31 : Int32)))) (v7 + (1 : Int32)) m (show 0 ≤ v2.toInt ∧ v2.toInt ≤ 16383 ∧ 1 ≤ v3.toInt ∧ v3.toInt ≤ 1023 ∧ 0 ≤ v4.toInt ∧ v4.toInt ≤ 13 ∧ 0 ≤ v5.toInt ∧ v5.toInt ≤ 13 ∧ 0 ≤ (v6 ||| ((1 : Int32) <<< ((m.1 7 (v5).toNatClampNeg) &&& (31 : Int32)))).toInt ∧ (v6 ||| ((1 : Int32) <<< ((m.1 7 (v5).toNatClampNeg) &&& (31 : Int32)))).toInt ≤ 1023 ∧ 0 ≤ (v7 + (1 : Int32)).toInt ∧ (v7 + (1 : Int32)).toInt ≤ 10 ∧ 10 - (v7 + (1 : Int32)).toInt < (n : Int) by omega) hI
        · refine s_ix kx15 ?_
          have kc38 : 0 ≤ (m.1 7 (v5).toNatClampNeg).toInt ∧ (m.1 7 (v5).toNatClampNeg).toInt ≤ 9 := hI.1 7 (v5).toNatClampNeg
          refine s_bd (zX1_minutesBy v2 v7 v4 (m.1 7 (v5).toNatClampNeg) m (show 0 ≤ v2.toInt ∧ v2.toInt ≤ 16383 ∧ 0 ≤ v7.toInt ∧ v7.toInt ≤ 9 ∧ 0 ≤ v4.toInt ∧ v4.toInt ≤ 13 ∧ 0 ≤ (m.1 7 (v5).toNatClampNeg).toInt ∧ (m.1 7 (v5).toNatClampNeg).toInt ≤ 9 by omega) hI) (fun r11 kr39 => ?_)
          have kc40 := rg r11
          replace kr39 : (r11.toInt ≤ 65535) := kr39
          refine s_eq (fun kh41 => ?_) (fun kh41 => ?_)
          · refine s_ix kx15 ?_
            have kc42 : 0 ≤ ((m.1 6 (v5).toNatClampNeg) &&& (31 : Int32)).toInt ∧ ((m.1 6 (v5).toNatClampNeg) &&& (31 : Int32)).toInt ≤ ((31 : Int32)).toInt := a_andr (by omega)
            have kc43 : 0 ≤ ((m.1 6 (v5).toNatClampNeg) &&& (31 : Int32)).toInt ∧ ((m.1 6 (v5).toNatClampNeg) &&& (31 : Int32)).toInt ≤ ((m.1 6 (v5).toNatClampNeg)).toInt := a_andl (by omega)
            have kc44 : 1 ≤ ((1 : Int32) <<< ((m.1 6 (v5).toNatClampNeg) &&& (31 : Int32))).toInt ∧ ((1 : Int32) <<< ((m.1 6 (v5).toNatClampNeg) &&& (31 : Int32))).toInt ≤ 512 := a_shl 9 (by decide) (by decide) (by omega) (by omega)
            have kc45 : 0 ≤ (v6 ||| ((1 : Int32) <<< ((m.1 6 (v5).toNatClampNeg) &&& (31 : Int32)))).toInt ∧ (v6 ||| ((1 : Int32) <<< ((m.1 6 (v5).toNatClampNeg) &&& (31 : Int32)))).toInt < 1024 := a_or 10 (by decide) (by decide) (by omega) (by omega) (by omega) (by omega)
            have kc46 : (v7 + (1 : Int32)).toInt = (v7).toInt + 1 := a_addl L1 (by omega) (by omega)
            exact ih v2 v3 v4 v5 (v6 ||| ((1 : Int32) <<< ((m.1 6 (v5).toNatClampNeg) &&& (31 : Int32)))) (v7 + (1 : Int32)) m (show 0 ≤ v2.toInt ∧ v2.toInt ≤ 16383 ∧ 1 ≤ v3.toInt ∧ v3.toInt ≤ 1023 ∧ 0 ≤ v4.toInt ∧ v4.toInt ≤ 13 ∧ 0 ≤ v5.toInt ∧ v5.toInt ≤ 13 ∧ 0 ≤ (v6 ||| ((1 : Int32) <<< ((m.1 6 (v5).toNatClampNeg) &&& (31 : Int32)))).toInt ∧ (v6 ||| ((1 : Int32) <<< ((m.1 6 (v5).toNatClampNeg) &&& (31 : Int32)))).toInt ≤ 1023 ∧ 0 ≤ (v7 + (1 : Int32)).toInt ∧ (v7 + (1 : Int32)).toInt ≤ 10 ∧ 10 - (v7 + (1 : Int32)).toInt < (n : Int) by omega) hI
          · have kc47 : (v7 + (1 : Int32)).toInt = (v7).toInt + 1 := a_addl L1 (by omega) (by omega)
            exact ih v2 v3 v4 v5 v6 (v7 + (1 : Int32)) m (show 0 ≤ v2.toInt ∧ v2.toInt ≤ 16383 ∧ 1 ≤ v3.toInt ∧ v3.toInt ≤ 1023 ∧ 0 ≤ v4.toInt ∧ v4.toInt ≤ 13 ∧ 0 ≤ v5.toInt ∧ v5.toInt ≤ 13 ∧ 0 ≤ v6.toInt ∧ v6.toInt ≤ 1023 ∧ 0 ≤ (v7 + (1 : Int32)).toInt ∧ (v7 + (1 : Int32)).toInt ≤ 10 ∧ 10 - (v7 + (1 : Int32)).toInt < (n : Int) by omega) hI
theorem zX1_endsOfBest (x1 : Int32) (x2 : Int32) (x3 : Int32) (m : sm_S) (hp : 0 ≤ x1.toInt ∧ x1.toInt ≤ 16383 ∧ 1 ≤ x2.toInt ∧ x2.toInt ≤ 1023 ∧ 0 ≤ x3.toInt ∧ x3.toInt ≤ 13) (hI : zI m) : Sf (fun r => (0 ≤ r.toInt) ∧ (r.toInt ≤ 1023)) (fX1_endsOfBest x1 x2 x3 m) := by
  have hfu := fuE
  unfold fX1_endsOfBest
  have kx1 : 0 ≤ (x3).toInt ∧ (x3).toInt < (14 : Int) := by omega
  refine s_ix kx1 ?_
  have kc2 : 0 ≤ (m.1 35 (x3).toNatClampNeg).toInt ∧ (m.1 35 (x3).toNatClampNeg).toInt ≤ 13 := hI.1 35 (x3).toNatClampNeg
  have kc3 := L0
  exact zX1_endsOfBest_15 sm_fu x1 x2 x3 (m.1 35 (x3).toNatClampNeg) (0 : Int32) (0 : Int32) m (show 0 ≤ x1.toInt ∧ x1.toInt ≤ 16383 ∧ 1 ≤ x2.toInt ∧ x2.toInt ≤ 1023 ∧ 0 ≤ x3.toInt ∧ x3.toInt ≤ 13 ∧ 0 ≤ (m.1 35 (x3).toNatClampNeg).toInt ∧ (m.1 35 (x3).toNatClampNeg).toInt ≤ 13 ∧ 0 ≤ (0 : Int32).toInt ∧ (0 : Int32).toInt ≤ 1023 ∧ 0 ≤ (0 : Int32).toInt ∧ (0 : Int32).toInt ≤ 10 ∧ 10 - (0 : Int32).toInt < (sm_fu : Int) by omega) hI
theorem zX1_tellLeastOrder_30 (m0 : sm_S) (k15 : Int32 → Int32 → Int32 → sm_S → Option (sm_S)) (Nk15 : Nat) (hk15 : ∀ (v4 : Int32) (v5 : Int32) (v6 : Int32) (m : sm_S), (1 ≤ v4.toInt ∧ v4.toInt ≤ 1023 ∧ 0 ≤ v5.toInt ∧ v5.toInt ≤ 16383 ∧ 0 ≤ v6.toInt ∧ v6.toInt ≤ 14 ∧ 14 - v6.toInt < (Nk15 : Int)) → zI m → Fr wX1_tellLeastOrder m0 m → Sf (fun r => (True) ∧ zI r ∧ Fr wX1_tellLeastOrder m0 r) (k15 v4 v5 v6 m)) : ∀ (n : Nat) (v4 : Int32) (v5 : Int32) (v6 : Int32) (v7 : Int32) (v8 : Int32) (m : sm_S), (1 ≤ v4.toInt ∧ v4.toInt ≤ 1023 ∧ 0 ≤ v5.toInt ∧ v5.toInt ≤ 16383 ∧ 0 ≤ v6.toInt ∧ v6.toInt ≤ 13 ∧ 0 ≤ v7.toInt ∧ v7.toInt ≤ 1 ∧ 0 ≤ v8.toInt ∧ v8.toInt ≤ 14 ∧ 14 - v8.toInt < (n : Int) ∧ 14 - v6.toInt ≤ (Nk15 : Int)) → zI m → Fr wX1_tellLeastOrder m0 m → Sf (fun r => (True) ∧ zI r ∧ Fr wX1_tellLeastOrder m0 r) (fX1_tellLeastOrder_30 k15 n v4 v5 v6 v7 v8 m) := by
  intro n
  induction n with
  | zero =>
    intro v4 v5 v6 v7 v8 m hp hI hF
    exfalso
    omega
  | succ n ih =>
    intro v4 v5 v6 v7 v8 m hp hI hF
    have hnn : ((n + 1 : Nat) : Int) = (n : Int) + 1 := by omega
    have hfu := fuE
    unfold fX1_tellLeastOrder_30
    have kc1 : 0 ≤ (m.1 34 1).toInt ∧ (m.1 34 1).toInt ≤ 14 := hI.1 34 1
    refine s_le (fun kh2 => ?_) (fun kh2 => ?_)
    · have kc3 : (v6 + (1 : Int32)).toInt = (v6).toInt + 1 := a_addl L1 (by omega) (by omega)
      exact hk15 v4 v5 (v6 + (1 : Int32)) m (show 1 ≤ v4.toInt ∧ v4.toInt ≤ 1023 ∧ 0 ≤ v5.toInt ∧ v5.toInt ≤ 16383 ∧ 0 ≤ (v6 + (1 : Int32)).toInt ∧ (v6 + (1 : Int32)).toInt ≤ 14 ∧ 14 - (v6 + (1 : Int32)).toInt < (Nk15 : Int) by omega) hI hF
    · have kc4 := L0
      refine s_eq (fun kh5 => ?_) (fun kh5 => ?_)
      · have kc6 := L31
        have kc7 : 0 ≤ (v8 &&& (31 : Int32)).toInt ∧ (v8 &&& (31 : Int32)).toInt ≤ ((31 : Int32)).toInt := a_andr (by omega)
        have kc8 : 0 ≤ (v8 &&& (31 : Int32)).toInt ∧ (v8 &&& (31 : Int32)).toInt ≤ (v8).toInt := a_andl (by omega)
        have kc9 : 0 ≤ (v5 >>> (v8 &&& (31 : Int32))).toInt ∧ (v5 >>> (v8 &&& (31 : Int32))).toInt ≤ (v5).toInt := a_shr (by omega)
        have kc10 := L1
        have kc11 : 0 ≤ ((v5 >>> (v8 &&& (31 : Int32))) &&& (1 : Int32)).toInt ∧ ((v5 >>> (v8 &&& (31 : Int32))) &&& (1 : Int32)).toInt ≤ ((1 : Int32)).toInt := a_andr (by omega)
        have kc12 : 0 ≤ ((v5 >>> (v8 &&& (31 : Int32))) &&& (1 : Int32)).toInt ∧ ((v5 >>> (v8 &&& (31 : Int32))) &&& (1 : Int32)).toInt ≤ ((v5 >>> (v8 &&& (31 : Int32)))).toInt := a_andl (by omega)
        refine s_eq (fun kh13 => ?_) (fun kh13 => ?_)
        · refine s_bd (zX1_endsOfBest v5 v4 v8 m (show 0 ≤ v5.toInt ∧ v5.toInt ≤ 16383 ∧ 1 ≤ v4.toInt ∧ v4.toInt ≤ 1023 ∧ 0 ≤ v8.toInt ∧ v8.toInt ≤ 13 by omega) hI) (fun r4 kr14 => ?_)
          replace kr14 : (0 ≤ r4.toInt) ∧ (r4.toInt ≤ 1023) := kr14
          refine s_eq (fun kh15 => ?_) (fun kh15 => ?_)
          · have kc16 : (v8 + (1 : Int32)).toInt = (v8).toInt + 1 := a_addl L1 (by omega) (by omega)
            exact ih v4 v5 v6 v7 (v8 + (1 : Int32)) m (show 1 ≤ v4.toInt ∧ v4.toInt ≤ 1023 ∧ 0 ≤ v5.toInt ∧ v5.toInt ≤ 16383 ∧ 0 ≤ v6.toInt ∧ v6.toInt ≤ 13 ∧ 0 ≤ v7.toInt ∧ v7.toInt ≤ 1 ∧ 0 ≤ (v8 + (1 : Int32)).toInt ∧ (v8 + (1 : Int32)).toInt ≤ 14 ∧ 14 - (v8 + (1 : Int32)).toInt < (n : Int) ∧ 14 - v6.toInt ≤ (Nk15 : Int) by omega) hI hF
          · have kx17 : 0 ≤ (v8).toInt ∧ (v8).toInt < (14 : Int) := by omega
            refine s_ix kx17 ?_
            refine s_bd (zX5_add (m.1 35 (v8).toNatClampNeg) m hI) (fun m7 kr18 => ?_)
            obtain ⟨kp19, ki20, kf21⟩ := kr18
            have kc22 : 1 ≤ ((1 : Int32) <<< (v8 &&& (31 : Int32))).toInt ∧ ((1 : Int32) <<< (v8 &&& (31 : Int32))).toInt ≤ 8192 := a_shl 13 (by decide) (by decide) (by omega) (by omega)
            have kc23 : 0 ≤ (v5 ||| ((1 : Int32) <<< (v8 &&& (31 : Int32)))).toInt ∧ (v5 ||| ((1 : Int32) <<< (v8 &&& (31 : Int32)))).toInt < 16384 := a_or 14 (by decide) (by decide) (by omega) (by omega) (by omega) (by omega)
            have kc24 : (v8 + (1 : Int32)).toInt = (v8).toInt + 1 := a_addl L1 (by omega) (by omega)
            have kf25 : Fr wX1_tellLeastOrder m0 m7 := Fr.trans hF kf21 rfl
            exact ih r4 (v5 ||| ((1 : Int32) <<< (v8 &&& (31 : Int32)))) v6 (1 : Int32) (v8 + (1 : Int32)) m7 (show 1 ≤ r4.toInt ∧ r4.toInt ≤ 1023 ∧ 0 ≤ (v5 ||| ((1 : Int32) <<< (v8 &&& (31 : Int32)))).toInt ∧ (v5 ||| ((1 : Int32) <<< (v8 &&& (31 : Int32)))).toInt ≤ 16383 ∧ 0 ≤ v6.toInt ∧ v6.toInt ≤ 13 ∧ 0 ≤ (1 : Int32).toInt ∧ (1 : Int32).toInt ≤ 1 ∧ 0 ≤ (v8 + (1 : Int32)).toInt ∧ (v8 + (1 : Int32)).toInt ≤ 14 ∧ 14 - (v8 + (1 : Int32)).toInt < (n : Int) ∧ 14 - v6.toInt ≤ (Nk15 : Int) by omega) ki20 kf25
        · have kc26 : (v8 + (1 : Int32)).toInt = (v8).toInt + 1 := a_addl L1 (by omega) (by omega)
          exact ih v4 v5 v6 v7 (v8 + (1 : Int32)) m (show 1 ≤ v4.toInt ∧ v4.toInt ≤ 1023 ∧ 0 ≤ v5.toInt ∧ v5.toInt ≤ 16383 ∧ 0 ≤ v6.toInt ∧ v6.toInt ≤ 13 ∧ 0 ≤ v7.toInt ∧ v7.toInt ≤ 1 ∧ 0 ≤ (v8 + (1 : Int32)).toInt ∧ (v8 + (1 : Int32)).toInt ≤ 14 ∧ 14 - (v8 + (1 : Int32)).toInt < (n : Int) ∧ 14 - v6.toInt ≤ (Nk15 : Int) by omega) hI hF
      · have kc27 : (v6 + (1 : Int32)).toInt = (v6).toInt + 1 := a_addl L1 (by omega) (by omega)
        exact hk15 v4 v5 (v6 + (1 : Int32)) m (show 1 ≤ v4.toInt ∧ v4.toInt ≤ 1023 ∧ 0 ≤ v5.toInt ∧ v5.toInt ≤ 16383 ∧ 0 ≤ (v6 + (1 : Int32)).toInt ∧ (v6 + (1 : Int32)).toInt ≤ 14 ∧ 14 - (v6 + (1 : Int32)).toInt < (Nk15 : Int) by omega) hI hF
theorem zX1_tellLeastOrder_15 (m0 : sm_S) : ∀ (n : Nat) (v4 : Int32) (v5 : Int32) (v6 : Int32) (m : sm_S), (1 ≤ v4.toInt ∧ v4.toInt ≤ 1023 ∧ 0 ≤ v5.toInt ∧ v5.toInt ≤ 16383 ∧ 0 ≤ v6.toInt ∧ v6.toInt ≤ 14 ∧ 14 - v6.toInt < (n : Int)) → zI m → Fr wX1_tellLeastOrder m0 m → Sf (fun r => (True) ∧ zI r ∧ Fr wX1_tellLeastOrder m0 r) (fX1_tellLeastOrder_15 n v4 v5 v6 m) := by
  intro n
  induction n with
  | zero =>
    intro v4 v5 v6 m hp hI hF
    exfalso
    omega
  | succ n ih =>
    intro v4 v5 v6 m hp hI hF
    have hnn : ((n + 1 : Nat) : Int) = (n : Int) + 1 := by omega
    have hfu := fuE
    unfold fX1_tellLeastOrder_15
    have kc1 : 0 ≤ (m.1 34 1).toInt ∧ (m.1 34 1).toInt ≤ 14 := hI.1 34 1
    refine s_le (fun kh2 => ?_) (fun kh2 => ?_)
    · exact s_ret ⟨trivial, hI, hF⟩
    · have kc3 := L0
      exact zX1_tellLeastOrder_30 m0 (fX1_tellLeastOrder_15 n) n ih sm_fu v4 v5 v6 (0 : Int32) (0 : Int32) m (show 1 ≤ v4.toInt ∧ v4.toInt ≤ 1023 ∧ 0 ≤ v5.toInt ∧ v5.toInt ≤ 16383 ∧ 0 ≤ v6.toInt ∧ v6.toInt ≤ 13 ∧ 0 ≤ (0 : Int32).toInt ∧ (0 : Int32).toInt ≤ 1 ∧ 0 ≤ (0 : Int32).toInt ∧ (0 : Int32).toInt ≤ 14 ∧ 14 - (0 : Int32).toInt < (sm_fu : Int) ∧ 14 - v6.toInt ≤ (n : Int) by omega) hI hF
theorem zX1_tellLeastOrder (x1 : Int32) (m : sm_S) (hp : 0 ≤ x1.toInt ∧ x1.toInt ≤ 9) (hI : zI m) : Sf (fun r => (True) ∧ zI r ∧ Fr wX1_tellLeastOrder m r) (fX1_tellLeastOrder x1 m) := by
  have hfu := fuE
  unfold fX1_tellLeastOrder
  refine s_bd (zX5_clear m hI) (fun m2 kr1 => ?_)
  obtain ⟨kp2, ki3, kf4⟩ := kr1
  have kc5 := L1
  have kc6 := L31
  have kc7 : 0 ≤ (x1 &&& (31 : Int32)).toInt ∧ (x1 &&& (31 : Int32)).toInt ≤ ((31 : Int32)).toInt := a_andr (by omega)
  have kc8 : 0 ≤ (x1 &&& (31 : Int32)).toInt ∧ (x1 &&& (31 : Int32)).toInt ≤ (x1).toInt := a_andl (by omega)
  have kc9 : 1 ≤ ((1 : Int32) <<< (x1 &&& (31 : Int32))).toInt ∧ ((1 : Int32) <<< (x1 &&& (31 : Int32))).toInt ≤ 512 := a_shl 9 (by decide) (by decide) (by omega) (by omega)
  have kc10 := L0
  have kf11 : Fr wX1_tellLeastOrder m m2 := Fr.trans Fr.refl kf4 rfl
  exact zX1_tellLeastOrder_15 m sm_fu ((1 : Int32) <<< (x1 &&& (31 : Int32))) (0 : Int32) (0 : Int32) m2 (show 1 ≤ ((1 : Int32) <<< (x1 &&& (31 : Int32))).toInt ∧ ((1 : Int32) <<< (x1 &&& (31 : Int32))).toInt ≤ 1023 ∧ 0 ≤ (0 : Int32).toInt ∧ (0 : Int32).toInt ≤ 16383 ∧ 0 ≤ (0 : Int32).toInt ∧ (0 : Int32).toInt ≤ 14 ∧ 14 - (0 : Int32).toInt < (sm_fu : Int) by omega) ki3 kf11
theorem zX11_gates (x1 : Int32) (m : sm_S) (hI : zI m) : Sf (fun r => (((-2 : Int) ≤ r.1.toInt) ∧ (r.1.toInt ≤ 65534)) ∧ zI r.2 ∧ Fr wX11_gates m r.2) (fX11_gates x1 m) := by
  have hfu := fuE
  unfold fX11_gates
  refine s_bd (zX2_hasCorner x1 m hI) (fun r2 kr1 => ?_)
  replace kr1 : (0 ≤ r2.toInt) ∧ (r2.toInt ≤ 1) ∧ ((r2.toInt = 0 ∧ (x1.toInt < 0 ∨ (m.1 3 0).toInt ≤ x1.toInt)) ∨ (r2.toInt = 1 ∧ 0 ≤ x1.toInt ∧ x1.toInt < (m.1 3 0).toInt)) := kr1
  have kc2 := L0
  have kc3 : 0 ≤ (m.1 3 0).toInt ∧ (m.1 3 0).toInt ≤ 10 := hI.1 3 0
  refine s_eq (fun kh4 => ?_) (fun kh4 => ?_)
  · have kc5 := Ln1
    exact s_ret ⟨(show ((-2 : Int) ≤ (-1 : Int32).toInt) ∧ ((-1 : Int32).toInt ≤ 65534) by omega), hI, Fr.refl⟩
  · refine s_bd (zX1_prepare m hI) (fun m4 kr6 => ?_)
    obtain ⟨kp7, ki8, kf9⟩ := kr6
    refine s_bd (zX1_fewestMinutes x1 m4 (show 0 ≤ x1.toInt ∧ x1.toInt ≤ 9 by omega) ki8) (fun r6 kr10 => ?_)
    obtain ⟨kp11, ki12, kf13⟩ := kr10
    replace kp11 : ((-1 : Int) ≤ r6.1.toInt) ∧ (r6.1.toInt ≤ 65534) := kp11
    refine s_le (fun kh14 => ?_) (fun kh14 => ?_)
    · refine s_bd (zX1_tellLeastOrder x1 r6.2 (show 0 ≤ x1.toInt ∧ x1.toInt ≤ 9 by omega) ki12) (fun m8 kr15 => ?_)
      obtain ⟨kp16, ki17, kf18⟩ := kr15
      have kf19 : Fr wX11_gates m m4 := Fr.trans Fr.refl kf9 rfl
      have kf20 : Fr wX11_gates m r6.2 := Fr.trans kf19 kf13 rfl
      have kf21 : Fr wX11_gates m m8 := Fr.trans kf20 kf18 rfl
      exact s_ret ⟨(show ((-2 : Int) ≤ r6.1.toInt) ∧ (r6.1.toInt ≤ 65534) by omega), ki17, kf21⟩
    · have kc22 := Ln2
      have kf23 : Fr wX11_gates m m4 := Fr.trans Fr.refl kf9 rfl
      have kf24 : Fr wX11_gates m r6.2 := Fr.trans kf23 kf13 rfl
      exact s_ret ⟨(show ((-2 : Int) ≤ (-2 : Int32).toInt) ∧ ((-2 : Int32).toInt ≤ 65534) by omega), ki12, kf24⟩
theorem zX0_hear (x1 : Int32) (x2 : Int32) (m : sm_S) (hp : 0 ≤ x1.toInt ∧ x1.toInt ≤ 13 ∧ 0 ≤ x2.toInt ∧ x2.toInt ≤ 6) (hI : zI m) : Sf (fun r => ((0 ≤ r.1.toInt) ∧ (r.1.toInt ≤ 1)) ∧ zI r.2 ∧ Fr wX0_hear m r.2) (fX0_hear x1 x2 m) := by
  have hfu := fuE
  unfold fX0_hear
  have kc1 : 0 ≤ (m.1 51 0).toInt ∧ (m.1 51 0).toInt ≤ 12 := hI.1 51 0
  have kc2 := L12
  refine s_lt (fun kh3 => ?_) (fun kh3 => ?_)
  · have kx4 : 0 ≤ ((m.1 51 0)).toInt ∧ ((m.1 51 0)).toInt < (12 : Int) := by omega
    refine s_ix kx4 ?_
    refine s_ix kx4 ?_
    have kc5 := L1
    have ki6 : zI (sm_w1 m 53 ((m.1 51 0)).toNatClampNeg x1) := zI.w hI rfl (show 0 ≤ (x1).toInt ∧ (x1).toInt ≤ 13 by omega)
    have ki7 : zI (sm_w1 (sm_w1 m 53 ((m.1 51 0)).toNatClampNeg x1) 54 ((m.1 51 0)).toNatClampNeg x2) := zI.w ki6 rfl (show 0 ≤ (x2).toInt ∧ (x2).toInt ≤ 6 by omega)
    have kc8 : ((m.1 51 0) + (1 : Int32)).toInt = ((m.1 51 0)).toInt + 1 := a_addl L1 (by omega) (by omega)
    have ki9 : zI (sm_w1 (sm_w1 (sm_w1 m 53 ((m.1 51 0)).toNatClampNeg x1) 54 ((m.1 51 0)).toNatClampNeg x2) 51 0 ((m.1 51 0) + (1 : Int32))) := zI.w ki7 rfl (show 0 ≤ (((m.1 51 0) + (1 : Int32))).toInt ∧ (((m.1 51 0) + (1 : Int32))).toInt ≤ 12 by omega)
    have kf10 : Fr wX0_hear m (sm_w1 m 53 ((m.1 51 0)).toNatClampNeg x1) := Fr.w Fr.refl rfl
    have kf11 : Fr wX0_hear m (sm_w1 (sm_w1 m 53 ((m.1 51 0)).toNatClampNeg x1) 54 ((m.1 51 0)).toNatClampNeg x2) := Fr.w kf10 rfl
    have kf12 : Fr wX0_hear m (sm_w1 (sm_w1 (sm_w1 m 53 ((m.1 51 0)).toNatClampNeg x1) 54 ((m.1 51 0)).toNatClampNeg x2) 51 0 ((m.1 51 0) + (1 : Int32))) := Fr.w kf11 rfl
    exact s_ret ⟨(show (0 ≤ (1 : Int32).toInt) ∧ ((1 : Int32).toInt ≤ 1) by omega), ki9, kf12⟩
  · have kc13 := L0
    exact s_ret ⟨(show (0 ≤ (0 : Int32).toInt) ∧ ((0 : Int32).toInt ≤ 1) by omega), hI, Fr.refl⟩
theorem zX11_heard (x1 : Int32) (x2 : Int32) (m : sm_S) (hI : zI m) : Sf (fun r => (((-1 : Int) ≤ r.1.toInt) ∧ (r.1.toInt ≤ 12)) ∧ zI r.2 ∧ Fr wX11_heard m r.2) (fX11_heard x1 x2 m) := by
  have hfu := fuE
  unfold fX11_heard
  refine s_bd (zX2_hasHedge x1 m hI) (fun r2 kr1 => ?_)
  replace kr1 : (0 ≤ r2.toInt) ∧ (r2.toInt ≤ 1) ∧ ((r2.toInt = 0 ∧ (x1.toInt < 0 ∨ (m.1 3 1).toInt ≤ x1.toInt)) ∨ (r2.toInt = 1 ∧ 0 ≤ x1.toInt ∧ x1.toInt < (m.1 3 1).toInt)) := kr1
  have kc2 := L0
  have kc3 : 0 ≤ (m.1 3 1).toInt ∧ (m.1 3 1).toInt ≤ 14 := hI.1 3 1
  refine s_eq (fun kh4 => ?_) (fun kh4 => ?_)
  · have kc5 := Ln1
    exact s_ret ⟨(show ((-1 : Int) ≤ (-1 : Int32).toInt) ∧ ((-1 : Int32).toInt ≤ 12) by omega), hI, Fr.refl⟩
  · refine s_lt (fun kh6 => ?_) (fun kh6 => ?_)
    · have kc7 := Ln1
      exact s_ret ⟨(show ((-1 : Int) ≤ (-1 : Int32).toInt) ∧ ((-1 : Int32).toInt ≤ 12) by omega), hI, Fr.refl⟩
    · have kc8 := L6
      refine s_le (fun kh9 => ?_) (fun kh9 => ?_)
      · refine s_bd (zX0_hear x1 x2 m (show 0 ≤ x1.toInt ∧ x1.toInt ≤ 13 ∧ 0 ≤ x2.toInt ∧ x2.toInt ≤ 6 by omega) hI) (fun r4 kr10 => ?_)
        obtain ⟨kp11, ki12, kf13⟩ := kr10
        replace kp11 : (0 ≤ r4.1.toInt) ∧ (r4.1.toInt ≤ 1) := kp11
        refine s_eq (fun kh14 => ?_) (fun kh14 => ?_)
        · have kc15 := Ln1
          have kf16 : Fr wX11_heard m r4.2 := Fr.trans Fr.refl kf13 rfl
          exact s_ret ⟨(show ((-1 : Int) ≤ (-1 : Int32).toInt) ∧ ((-1 : Int32).toInt ≤ 12) by omega), ki12, kf16⟩
        · have kc17 : 0 ≤ (r4.2.1 51 0).toInt ∧ (r4.2.1 51 0).toInt ≤ 12 := ki12.1 51 0
          have kf18 : Fr wX11_heard m r4.2 := Fr.trans Fr.refl kf13 rfl
          exact s_ret ⟨(show ((-1 : Int) ≤ (r4.2.1 51 0).toInt) ∧ ((r4.2.1 51 0).toInt ≤ 12) by omega), ki12, kf18⟩
      · have kc19 := Ln1
        exact s_ret ⟨(show ((-1 : Int) ≤ (-1 : Int32).toInt) ∧ ((-1 : Int32).toInt ≤ 12) by omega), hI, Fr.refl⟩
theorem zX11_forget (m : sm_S) (hI : zI m) : Sf (fun r => (((-1 : Int) ≤ r.1.toInt) ∧ (r.1.toInt ≤ 11)) ∧ zI r.2 ∧ Fr wX11_forget m r.2) (fX11_forget m) := by
  have hfu := fuE
  unfold fX11_forget
  have kc1 : 0 ≤ (m.1 51 0).toInt ∧ (m.1 51 0).toInt ≤ 12 := hI.1 51 0
  have kc2 := L0
  refine s_eq (fun kh3 => ?_) (fun kh3 => ?_)
  · have kc4 := Ln1
    exact s_ret ⟨(show ((-1 : Int) ≤ (-1 : Int32).toInt) ∧ ((-1 : Int32).toInt ≤ 11) by omega), hI, Fr.refl⟩
  · have kc5 : ((m.1 51 0) - (1 : Int32)).toInt = ((m.1 51 0)).toInt - 1 := a_subl L1 (by omega) (by omega)
    have ki6 : zI (sm_w1 m 51 0 ((m.1 51 0) - (1 : Int32))) := zI.w hI rfl (show 0 ≤ (((m.1 51 0) - (1 : Int32))).toInt ∧ (((m.1 51 0) - (1 : Int32))).toInt ≤ 12 by omega)
    have kf7 : Fr wX11_forget m (sm_w1 m 51 0 ((m.1 51 0) - (1 : Int32))) := Fr.w Fr.refl rfl
    exact s_ret ⟨(show ((-1 : Int) ≤ ((m.1 51 0) - (1 : Int32)).toInt) ∧ (((m.1 51 0) - (1 : Int32)).toInt ≤ 11) by omega), ki6, kf7⟩
theorem zX0_all (m : sm_S) (hI : zI m) : Sf (fun r => (0 ≤ r.toInt) ∧ (r.toInt ≤ 4095)) (fX0_all m) := by
  have hfu := fuE
  unfold fX0_all
  have kc1 := L1
  have kc2 : 0 ≤ (m.1 51 0).toInt ∧ (m.1 51 0).toInt ≤ 12 := hI.1 51 0
  have kc3 := L31
  have kc4 : 0 ≤ ((m.1 51 0) &&& (31 : Int32)).toInt ∧ ((m.1 51 0) &&& (31 : Int32)).toInt ≤ ((31 : Int32)).toInt := a_andr (by omega)
  have kc5 : 0 ≤ ((m.1 51 0) &&& (31 : Int32)).toInt ∧ ((m.1 51 0) &&& (31 : Int32)).toInt ≤ ((m.1 51 0)).toInt := a_andl (by omega)
  have kc6 : 1 ≤ ((1 : Int32) <<< ((m.1 51 0) &&& (31 : Int32))).toInt ∧ ((1 : Int32) <<< ((m.1 51 0) &&& (31 : Int32))).toInt ≤ 4096 := a_shl 12 (by decide) (by decide) (by omega) (by omega)
  have kc7 : (((1 : Int32) <<< ((m.1 51 0) &&& (31 : Int32))) - (1 : Int32)).toInt = (((1 : Int32) <<< ((m.1 51 0) &&& (31 : Int32)))).toInt - 1 := a_subl L1 (by omega) (by omega)
  exact s_ret (show (0 ≤ (((1 : Int32) <<< ((m.1 51 0) &&& (31 : Int32))) - (1 : Int32)).toInt) ∧ ((((1 : Int32) <<< ((m.1 51 0) &&& (31 : Int32))) - (1 : Int32)).toInt ≤ 4095) by omega)
theorem zX0_cowsIn (x1 : Int32) (x2 : Int32) (m : sm_S) (hp : 0 ≤ x1.toInt ∧ x1.toInt ≤ 4095 ∧ 0 ≤ x2.toInt ∧ x2.toInt ≤ 9) (hI : zI m) : Sf (fun r => (0 ≤ r.toInt) ∧ (r.toInt ≤ 3)) (fX0_cowsIn x1 x2 m) := by
  have hfu := fuE
  unfold fX0_cowsIn
  have kc1 := L2
  have kc2 := L5
  have kc3 : ((5 : Int32) - x2).toInt = ((5 : Int32)).toInt - (x2).toInt := a_sub (by omega) (by omega)
  have kc4 : ((2 : Int32) * ((5 : Int32) - x2)).toInt = 2 * (((5 : Int32) - x2)).toInt := a_mul L2 rfl (by omega) (by omega)
  have kc5 := L31
  have kc6 : 0 ≤ (((2 : Int32) * ((5 : Int32) - x2)) &&& (31 : Int32)).toInt ∧ (((2 : Int32) * ((5 : Int32) - x2)) &&& (31 : Int32)).toInt ≤ ((31 : Int32)).toInt := a_andr (by omega)
  have kc7 : 0 ≤ (x1 >>> (((2 : Int32) * ((5 : Int32) - x2)) &&& (31 : Int32))).toInt ∧ (x1 >>> (((2 : Int32) * ((5 : Int32) - x2)) &&& (31 : Int32))).toInt ≤ (x1).toInt := a_shr (by omega)
  have kc8 := L3
  have kc9 : 0 ≤ ((x1 >>> (((2 : Int32) * ((5 : Int32) - x2)) &&& (31 : Int32))) &&& (3 : Int32)).toInt ∧ ((x1 >>> (((2 : Int32) * ((5 : Int32) - x2)) &&& (31 : Int32))) &&& (3 : Int32)).toInt ≤ ((3 : Int32)).toInt := a_andr (by omega)
  have kc10 : 0 ≤ ((x1 >>> (((2 : Int32) * ((5 : Int32) - x2)) &&& (31 : Int32))) &&& (3 : Int32)).toInt ∧ ((x1 >>> (((2 : Int32) * ((5 : Int32) - x2)) &&& (31 : Int32))) &&& (3 : Int32)).toInt ≤ ((x1 >>> (((2 : Int32) * ((5 : Int32) - x2)) &&& (31 : Int32)))).toInt := a_andl (by omega)
  exact s_ret (show (0 ≤ ((x1 >>> (((2 : Int32) * ((5 : Int32) - x2)) &&& (31 : Int32))) &&& (3 : Int32)).toInt) ∧ (((x1 >>> (((2 : Int32) * ((5 : Int32) - x2)) &&& (31 : Int32))) &&& (3 : Int32)).toInt ≤ 3) by omega)
theorem zX0_cowsOver (x1 : Int32) (x2 : Int32) (m : sm_S) (hp : 0 ≤ x1.toInt ∧ x1.toInt ≤ 13 ∧ 0 ≤ x2.toInt ∧ x2.toInt ≤ 4095) (hI : zI m) : Sf (fun r => (0 ≤ r.toInt) ∧ (r.toInt ≤ 6)) (fX0_cowsOver x1 x2 m) := by
  have hfu := fuE
  unfold fX0_cowsOver
  have kx1 : 0 ≤ (x1).toInt ∧ (x1).toInt < (14 : Int) := by omega
  refine s_ix kx1 ?_
  have kc2 : 0 ≤ (m.1 9 (x1).toNatClampNeg).toInt ∧ (m.1 9 (x1).toNatClampNeg).toInt ≤ 9 := hI.1 9 (x1).toNatClampNeg
  refine s_bd (zX0_cowsIn x2 (m.1 9 (x1).toNatClampNeg) m (show 0 ≤ x2.toInt ∧ x2.toInt ≤ 4095 ∧ 0 ≤ (m.1 9 (x1).toNatClampNeg).toInt ∧ (m.1 9 (x1).toNatClampNeg).toInt ≤ 9 by omega) hI) (fun r3 kr3 => ?_)
  replace kr3 : (0 ≤ r3.toInt) ∧ (r3.toInt ≤ 3) := kr3
  refine s_ix kx1 ?_
  have kc4 : 0 ≤ (m.1 10 (x1).toNatClampNeg).toInt ∧ (m.1 10 (x1).toNatClampNeg).toInt ≤ 9 := hI.1 10 (x1).toNatClampNeg
  refine s_bd (zX0_cowsIn x2 (m.1 10 (x1).toNatClampNeg) m (show 0 ≤ x2.toInt ∧ x2.toInt ≤ 4095 ∧ 0 ≤ (m.1 10 (x1).toNatClampNeg).toInt ∧ (m.1 10 (x1).toNatClampNeg).toInt ≤ 9 by omega) hI) (fun r6 kr5 => ?_)
  replace kr5 : (0 ≤ r6.toInt) ∧ (r6.toInt ≤ 3) := kr5
  have kc6 : (r3 + r6).toInt = (r3).toInt + (r6).toInt := a_add (by omega) (by omega)
  exact s_ret (show (0 ≤ (r3 + r6).toInt) ∧ ((r3 + r6).toInt ≤ 6) by omega)
theorem zX0_isLie (x1 : Int32) (x2 : Int32) (m : sm_S) (hp : 0 ≤ x1.toInt ∧ x1.toInt ≤ 4095 ∧ 0 ≤ x2.toInt ∧ x2.toInt ≤ 11) (hI : zI m) : Sf (fun r => (0 ≤ r.toInt) ∧ (r.toInt ≤ 1)) (fX0_isLie x1 x2 m) := by
  have hfu := fuE
  unfold fX0_isLie
  have kx1 : 0 ≤ (x2).toInt ∧ (x2).toInt < (12 : Int) := by omega
  refine s_ix kx1 ?_
  have kc2 : 0 ≤ (m.1 53 (x2).toNatClampNeg).toInt ∧ (m.1 53 (x2).toNatClampNeg).toInt ≤ 13 := hI.1 53 (x2).toNatClampNeg
  refine s_bd (zX0_cowsOver (m.1 53 (x2).toNatClampNeg) x1 m (show 0 ≤ (m.1 53 (x2).toNatClampNeg).toInt ∧ (m.1 53 (x2).toNatClampNeg).toInt ≤ 13 ∧ 0 ≤ x1.toInt ∧ x1.toInt ≤ 4095 by omega) hI) (fun r3 kr3 => ?_)
  replace kr3 : (0 ≤ r3.toInt) ∧ (r3.toInt ≤ 6) := kr3
  refine s_ix kx1 ?_
  have kc4 : 0 ≤ (m.1 54 (x2).toNatClampNeg).toInt ∧ (m.1 54 (x2).toNatClampNeg).toInt ≤ 6 := hI.1 54 (x2).toNatClampNeg
  refine s_eq (fun kh5 => ?_) (fun kh5 => ?_)
  · have kc6 := L0
    exact s_ret (show (0 ≤ (0 : Int32).toInt) ∧ ((0 : Int32).toInt ≤ 1) by omega)
  · have kc7 := L1
    exact s_ret (show (0 ≤ (1 : Int32).toInt) ∧ ((1 : Int32).toInt ≤ 1) by omega)
theorem zX0_allHold_3 : ∀ (n : Nat) (v2 : Int32) (v3 : Int32) (v4 : Int32) (m : sm_S), (0 ≤ v2.toInt ∧ v2.toInt ≤ 4095 ∧ 0 ≤ v4.toInt ∧ v4.toInt ≤ 12 ∧ 12 - v4.toInt < (n : Int)) → zI m → Sf (fun r => (0 ≤ r.toInt) ∧ (r.toInt ≤ 1)) (fX0_allHold_3 n v2 v3 v4 m) := by
  intro n
  induction n with
  | zero =>
    intro v2 v3 v4 m hp hI
    exfalso
    omega
  | succ n ih =>
    intro v2 v3 v4 m hp hI
    have hnn : ((n + 1 : Nat) : Int) = (n : Int) + 1 := by omega
    have hfu := fuE
    unfold fX0_allHold_3
    have kc1 : 0 ≤ (m.1 51 0).toInt ∧ (m.1 51 0).toInt ≤ 12 := hI.1 51 0
    refine s_le (fun kh2 => ?_) (fun kh2 => ?_)
    · have kc3 := L1
      exact s_ret (show (0 ≤ (1 : Int32).toInt) ∧ ((1 : Int32).toInt ≤ 1) by omega)
    · have kc4 := L31
      have kc5 : 0 ≤ (v4 &&& (31 : Int32)).toInt ∧ (v4 &&& (31 : Int32)).toInt ≤ ((31 : Int32)).toInt := a_andr (by omega)
      have kc6 : 0 ≤ (v4 &&& (31 : Int32)).toInt ∧ (v4 &&& (31 : Int32)).toInt ≤ (v4).toInt := a_andl (by omega)
      have kc7 := L1
      have kc8 : 0 ≤ ((v3 >>> (v4 &&& (31 : Int32))) &&& (1 : Int32)).toInt ∧ ((v3 >>> (v4 &&& (31 : Int32))) &&& (1 : Int32)).toInt ≤ ((1 : Int32)).toInt := a_andr (by omega)
      have kc9 := L0
      refine s_eq (fun kh10 => ?_) (fun kh10 => ?_)
      · have kc11 : (v4 + (1 : Int32)).toInt = (v4).toInt + 1 := a_addl L1 (by omega) (by omega)
        exact ih v2 v3 (v4 + (1 : Int32)) m (show 0 ≤ v2.toInt ∧ v2.toInt ≤ 4095 ∧ 0 ≤ (v4 + (1 : Int32)).toInt ∧ (v4 + (1 : Int32)).toInt ≤ 12 ∧ 12 - (v4 + (1 : Int32)).toInt < (n : Int) by omega) hI
      · refine s_bd (zX0_isLie v2 v4 m (show 0 ≤ v2.toInt ∧ v2.toInt ≤ 4095 ∧ 0 ≤ v4.toInt ∧ v4.toInt ≤ 11 by omega) hI) (fun r2 kr12 => ?_)
        replace kr12 : (0 ≤ r2.toInt) ∧ (r2.toInt ≤ 1) := kr12
        refine s_eq (fun kh13 => ?_) (fun kh13 => ?_)
        · have kc14 : (v4 + (1 : Int32)).toInt = (v4).toInt + 1 := a_addl L1 (by omega) (by omega)
          exact ih v2 v3 (v4 + (1 : Int32)) m (show 0 ≤ v2.toInt ∧ v2.toInt ≤ 4095 ∧ 0 ≤ (v4 + (1 : Int32)).toInt ∧ (v4 + (1 : Int32)).toInt ≤ 12 ∧ 12 - (v4 + (1 : Int32)).toInt < (n : Int) by omega) hI
        · exact s_ret (show (0 ≤ (0 : Int32).toInt) ∧ ((0 : Int32).toInt ≤ 1) by omega)
theorem zX0_allHold (x1 : Int32) (x2 : Int32) (m : sm_S) (hp : 0 ≤ x1.toInt ∧ x1.toInt ≤ 4095) (hI : zI m) : Sf (fun r => (0 ≤ r.toInt) ∧ (r.toInt ≤ 1)) (fX0_allHold x1 x2 m) := by
  have hfu := fuE
  unfold fX0_allHold
  have kc1 := L0
  exact zX0_allHold_3 sm_fu x1 x2 (0 : Int32) m (show 0 ≤ x1.toInt ∧ x1.toInt ≤ 4095 ∧ 0 ≤ (0 : Int32).toInt ∧ (0 : Int32).toInt ≤ 12 ∧ 12 - (0 : Int32).toInt < (sm_fu : Int) by omega) hI
theorem zX0_findWays_27 (m0 : sm_S) : ∀ (n : Nat) (v2 : Int32) (v3 : Int32) (m : sm_S), ((-1 : Int) ≤ v3.toInt ∧ v3.toInt ≤ 4095 ∧ v3.toInt + 1 < (n : Int)) → zI m → Fr wX0_findWays m0 m → Sf (fun r => (True) ∧ zI r.2 ∧ Fr wX0_findWays m0 r.2) (fX0_findWays_27 n v2 v3 m) := by
  intro n
  induction n with
  | zero =>
    intro v2 v3 m hp hI hF
    exfalso
    omega
  | succ n ih =>
    intro v2 v3 m hp hI hF
    have hnn : ((n + 1 : Nat) : Int) = (n : Int) + 1 := by omega
    have hfu := fuE
    unfold fX0_findWays_27
    simp only [a_m1, a_m8]
    have kc1 := L0
    refine s_lt (fun kh2 => ?_) (fun kh2 => ?_)
    · exact s_ret ⟨trivial, hI, hF⟩
    · refine s_bd (zX0_all m hI) (fun r2 kr3 => ?_)
      replace kr3 : (0 ≤ r2.toInt) ∧ (r2.toInt ≤ 4095) := kr3
      refine s_bd (zX0_allHold v3 r2 m (show 0 ≤ v3.toInt ∧ v3.toInt ≤ 4095 by omega) hI) (fun r4 kr4 => ?_)
      replace kr4 : (0 ≤ r4.toInt) ∧ (r4.toInt ≤ 1) := kr4
      refine s_eq (fun kh5 => ?_) (fun kh5 => ?_)
      · have kc6 : (v3 - (1 : Int32)).toInt = (v3).toInt - 1 := a_subl L1 (by omega) (by omega)
        exact ih v2 (v3 - (1 : Int32)) m (show (-1 : Int) ≤ (v3 - (1 : Int32)).toInt ∧ (v3 - (1 : Int32)).toInt ≤ 4095 ∧ (v3 - (1 : Int32)).toInt + 1 < (n : Int) by omega) hI hF
      · have kc7 := L6
        have kc8 := L31
        have kc9 : 0 ≤ ((6 : Int32) &&& (31 : Int32)).toInt ∧ ((6 : Int32) &&& (31 : Int32)).toInt ≤ ((31 : Int32)).toInt := a_andr (by omega)
        have kc10 : 0 ≤ ((6 : Int32) &&& (31 : Int32)).toInt ∧ ((6 : Int32) &&& (31 : Int32)).toInt ≤ ((6 : Int32)).toInt := a_andl (by omega)
        have kc11 : (v3 >>> ((6 : Int32) &&& (31 : Int32))).toInt = (v3).toInt / 64 := a_shrE 6 (by decide) (by decide) (by decide)
        have kx12 : 0 ≤ ((v3 >>> ((6 : Int32) &&& (31 : Int32)))).toInt ∧ ((v3 >>> ((6 : Int32) &&& (31 : Int32)))).toInt < (64 : Int) := by omega
        refine s_ix kx12 ?_
        refine s_ix kx12 ?_
        have kc13 : (v3 - (1 : Int32)).toInt = (v3).toInt - 1 := a_subl L1 (by omega) (by omega)
        have ki14 : zI (sm_w2 m 52 ((v3 >>> ((6 : Int32) &&& (31 : Int32)))).toNatClampNeg ((m.2 52 ((v3 >>> ((6 : Int32) &&& (31 : Int32)))).toNatClampNeg) ||| ((1 : Int64) <<< (((v3 &&& (63 : Int32))).toInt64 &&& (63 : Int64))))) := hI
        have ki15 : zI (sm_w1 (sm_w2 m 52 ((v3 >>> ((6 : Int32) &&& (31 : Int32)))).toNatClampNeg ((m.2 52 ((v3 >>> ((6 : Int32) &&& (31 : Int32)))).toNatClampNeg) ||| ((1 : Int64) <<< (((v3 &&& (63 : Int32))).toInt64 &&& (63 : Int64))))) 51 1 v3) := zI.w ki14 rfl (show 0 ≤ (v3).toInt ∧ (v3).toInt ≤ 4095 by omega)
        have kf16 : Fr wX0_findWays m0 (sm_w2 m 52 ((v3 >>> ((6 : Int32) &&& (31 : Int32)))).toNatClampNeg ((m.2 52 ((v3 >>> ((6 : Int32) &&& (31 : Int32)))).toNatClampNeg) ||| ((1 : Int64) <<< (((v3 &&& (63 : Int32))).toInt64 &&& (63 : Int64))))) := hF
        have kf17 : Fr wX0_findWays m0 (sm_w1 (sm_w2 m 52 ((v3 >>> ((6 : Int32) &&& (31 : Int32)))).toNatClampNeg ((m.2 52 ((v3 >>> ((6 : Int32) &&& (31 : Int32)))).toNatClampNeg) ||| ((1 : Int64) <<< (((v3 &&& (63 : Int32))).toInt64 &&& (63 : Int64))))) 51 1 v3) := Fr.w kf16 rfl
        exact ih (v2 + (1 : Int32)) (v3 - (1 : Int32)) (sm_w1 (sm_w2 m 52 ((v3 >>> ((6 : Int32) &&& (31 : Int32)))).toNatClampNeg ((m.2 52 ((v3 >>> ((6 : Int32) &&& (31 : Int32)))).toNatClampNeg) ||| ((1 : Int64) <<< (((v3 &&& (63 : Int32))).toInt64 &&& (63 : Int64))))) 51 1 v3) (show (-1 : Int) ≤ (v3 - (1 : Int32)).toInt ∧ (v3 - (1 : Int32)).toInt ≤ 4095 ∧ (v3 - (1 : Int32)).toInt + 1 < (n : Int) by omega) ki15 kf17
theorem zX0_findWays_2 (m0 : sm_S) : ∀ (n : Nat) (v2 : Int32) (m : sm_S), (0 ≤ v2.toInt ∧ v2.toInt ≤ 64 ∧ 64 - v2.toInt < (n : Int)) → zI m → Fr wX0_findWays m0 m → Sf (fun r => (True) ∧ zI r.2 ∧ Fr wX0_findWays m0 r.2) (fX0_findWays_2 n v2 m) := by
  intro n
  induction n with
  | zero =>
    intro v2 m hp hI hF
    exfalso
    omega
  | succ n ih =>
    intro v2 m hp hI hF
    have hnn : ((n + 1 : Nat) : Int) = (n : Int) + 1 := by omega
    have hfu := fuE
    unfold fX0_findWays_2
    have kc1 := L64
    refine s_le (fun kh2 => ?_) (fun kh2 => ?_)
    · have kc3 := L0
      have kc4 := L4095
      exact zX0_findWays_27 m0 sm_fu (0 : Int32) (4095 : Int32) m (show (-1 : Int) ≤ (4095 : Int32).toInt ∧ (4095 : Int32).toInt ≤ 4095 ∧ (4095 : Int32).toInt + 1 < (sm_fu : Int) by omega) hI hF
    · have kx5 : 0 ≤ (v2).toInt ∧ (v2).toInt < (64 : Int) := by omega
      refine s_ix kx5 ?_
      have kc6 : (v2 + (1 : Int32)).toInt = (v2).toInt + 1 := a_addl L1 (by omega) (by omega)
      have ki7 : zI (sm_w2 m 52 (v2).toNatClampNeg (0 : Int64)) := hI
      have kf8 : Fr wX0_findWays m0 (sm_w2 m 52 (v2).toNatClampNeg (0 : Int64)) := hF
      exact ih (v2 + (1 : Int32)) (sm_w2 m 52 (v2).toNatClampNeg (0 : Int64)) (show 0 ≤ (v2 + (1 : Int32)).toInt ∧ (v2 + (1 : Int32)).toInt ≤ 64 ∧ 64 - (v2 + (1 : Int32)).toInt < (n : Int) by omega) ki7 kf8
theorem zX0_findWays (m : sm_S) (hI : zI m) : Sf (fun r => (True) ∧ zI r.2 ∧ Fr wX0_findWays m r.2) (fX0_findWays m) := by
  have hfu := fuE
  unfold fX0_findWays
  have kc1 := L0
  exact zX0_findWays_2 m sm_fu (0 : Int32) m (show 0 ≤ (0 : Int32).toInt ∧ (0 : Int32).toInt ≤ 64 ∧ 64 - (0 : Int32).toInt < (sm_fu : Int) by omega) hI Fr.refl
theorem zX0_asDigits_4 : ∀ (n : Nat) (v0 : Int32) (v1 : Int32) (v2 : Int32) (m : sm_S), (0 ≤ v0.toInt ∧ v0.toInt ≤ 4095 ∧ 0 ≤ v2.toInt ∧ v2.toInt ≤ 6 ∧ 6 - v2.toInt < (n : Int)) → zI m → Sf (fun r => True) (fX0_asDigits_4 n v0 v1 v2 m) := by
  intro n
  induction n with
  | zero =>
    intro v0 v1 v2 m hp hI
    exfalso
    omega
  | succ n ih =>
    intro v0 v1 v2 m hp hI
    have hnn : ((n + 1 : Nat) : Int) = (n : Int) + 1 := by omega
    have hfu := fuE
    unfold fX0_asDigits_4
    have kc1 := L6
    refine s_le (fun kh2 => ?_) (fun kh2 => ?_)
    · exact s_ret trivial
    · refine s_bd (zX0_cowsIn v0 v2 m (show 0 ≤ v0.toInt ∧ v0.toInt ≤ 4095 ∧ 0 ≤ v2.toInt ∧ v2.toInt ≤ 9 by omega) hI) (fun r2 kr3 => ?_)
      replace kr3 : (0 ≤ r2.toInt) ∧ (r2.toInt ≤ 3) := kr3
      have kc4 := L10
      have kc5 : (v2 + (1 : Int32)).toInt = (v2).toInt + 1 := a_addl L1 (by omega) (by omega)
      exact ih v0 (((10 : Int32) * v1) + r2) (v2 + (1 : Int32)) m (show 0 ≤ v0.toInt ∧ v0.toInt ≤ 4095 ∧ 0 ≤ (v2 + (1 : Int32)).toInt ∧ (v2 + (1 : Int32)).toInt ≤ 6 ∧ 6 - (v2 + (1 : Int32)).toInt < (n : Int) by omega) hI
theorem zX0_asDigits (x1 : Int32) (m : sm_S) (hp : 0 ≤ x1.toInt ∧ x1.toInt ≤ 4095) (hI : zI m) : Sf (fun r => True) (fX0_asDigits x1 m) := by
  have hfu := fuE
  unfold fX0_asDigits
  have kc1 := L0
  exact zX0_asDigits_4 sm_fu x1 (0 : Int32) (0 : Int32) m (show 0 ≤ x1.toInt ∧ x1.toInt ≤ 4095 ∧ 0 ≤ (0 : Int32).toInt ∧ (0 : Int32).toInt ≤ 6 ∧ 6 - (0 : Int32).toInt < (sm_fu : Int) by omega) hI
theorem zX11_lands (m : sm_S) (hI : zI m) : Sf (fun r => (True) ∧ zI r.2 ∧ Fr wX11_lands m r.2) (fX11_lands m) := by
  have hfu := fuE
  unfold fX11_lands
  refine s_bd (zX0_findWays m hI) (fun r2 kr1 => ?_)
  obtain ⟨kp2, ki3, kf4⟩ := kr1
  refine s_bd (zX5_clear r2.2 ki3) (fun m4 kr5 => ?_)
  obtain ⟨kp6, ki7, kf8⟩ := kr5
  have kc9 := L0
  refine s_le (fun kh10 => ?_) (fun kh10 => ?_)
  · have kf11 : Fr wX11_lands m r2.2 := Fr.trans Fr.refl kf4 rfl
    have kf12 : Fr wX11_lands m m4 := Fr.trans kf11 kf8 rfl
    exact s_ret ⟨trivial, ki7, kf12⟩
  · have kc13 : 0 ≤ (m4.1 51 1).toInt ∧ (m4.1 51 1).toInt ≤ 4095 := ki7.1 51 1
    have kc14 : (m4.1 51 1).toInt = (r2.2.1 51 1).toInt := congrArg Int32.toInt (kf8 51 1 rfl)
    have kc15 : 0 ≤ (r2.2.1 51 1).toInt ∧ (r2.2.1 51 1).toInt ≤ 4095 := ki3.1 51 1
    refine s_bd (zX0_asDigits (m4.1 51 1) m4 (show 0 ≤ (m4.1 51 1).toInt ∧ (m4.1 51 1).toInt ≤ 4095 by omega) ki7) (fun r6 kr16 => ?_)
    refine s_bd (zX5_add r6 m4 ki7) (fun m8 kr17 => ?_)
    obtain ⟨kp18, ki19, kf20⟩ := kr17
    have kf21 : Fr wX11_lands m r2.2 := Fr.trans Fr.refl kf4 rfl
    have kf22 : Fr wX11_lands m m4 := Fr.trans kf21 kf8 rfl
    have kf23 : Fr wX11_lands m m8 := Fr.trans kf22 kf20 rfl
    exact s_ret ⟨trivial, ki19, kf23⟩
theorem zX0_isFound (x1 : Int32) (m : sm_S) (hp : 0 ≤ x1.toInt ∧ x1.toInt ≤ 4095) (hI : zI m) : Sf (fun r => (0 ≤ r.toInt) ∧ (r.toInt ≤ 1)) (fX0_isFound x1 m) := by
  have hfu := fuE
  unfold fX0_isFound
  have kc1 := L6
  have kc2 := L31
  have kc3 : 0 ≤ ((6 : Int32) &&& (31 : Int32)).toInt ∧ ((6 : Int32) &&& (31 : Int32)).toInt ≤ ((31 : Int32)).toInt := a_andr (by omega)
  have kc4 : 0 ≤ ((6 : Int32) &&& (31 : Int32)).toInt ∧ ((6 : Int32) &&& (31 : Int32)).toInt ≤ ((6 : Int32)).toInt := a_andl (by omega)
  have kc5 : (x1 >>> ((6 : Int32) &&& (31 : Int32))).toInt = (x1).toInt / 64 := a_shrE 6 (by decide) (by decide) (by decide)
  have kx6 : 0 ≤ ((x1 >>> ((6 : Int32) &&& (31 : Int32)))).toInt ∧ ((x1 >>> ((6 : Int32) &&& (31 : Int32)))).toInt < (64 : Int) := by omega
  refine s_ix kx6 ?_
  have kc7 := L0
  refine s_eq (fun kh8 => ?_) (fun kh8 => ?_)
  · exact s_ret (show (0 ≤ (0 : Int32).toInt) ∧ ((0 : Int32).toInt ≤ 1) by omega)
  · have kc9 := L1
    exact s_ret (show (0 ≤ (1 : Int32).toInt) ∧ ((1 : Int32).toInt ≤ 1) by omega)
theorem zX0_differences_4 : ∀ (n : Nat) (v1 : Int32) (v2 : Int32) (m : sm_S), (0 ≤ v1.toInt ∧ v1.toInt ≤ 4095 ∧ 0 ≤ v2.toInt ∧ v2.toInt ≤ 4096 ∧ 4096 - v2.toInt < (n : Int)) → zI m → Sf (fun r => (0 ≤ r.toInt) ∧ (r.toInt ≤ 4095)) (fX0_differences_4 n v1 v2 m) := by
  intro n
  induction n with
  | zero =>
    intro v1 v2 m hp hI
    exfalso
    omega
  | succ n ih =>
    intro v1 v2 m hp hI
    have hnn : ((n + 1 : Nat) : Int) = (n : Int) + 1 := by omega
    have hfu := fuE
    unfold fX0_differences_4
    have kc1 := L4096
    refine s_le (fun kh2 => ?_) (fun kh2 => ?_)
    · exact s_ret (show (0 ≤ v1.toInt) ∧ (v1.toInt ≤ 4095) by omega)
    · refine s_bd (zX0_isFound v2 m (show 0 ≤ v2.toInt ∧ v2.toInt ≤ 4095 by omega) hI) (fun r2 kr3 => ?_)
      replace kr3 : (0 ≤ r2.toInt) ∧ (r2.toInt ≤ 1) := kr3
      have kc4 := L0
      refine s_eq (fun kh5 => ?_) (fun kh5 => ?_)
      · have kc6 : (v2 + (1 : Int32)).toInt = (v2).toInt + 1 := a_addl L1 (by omega) (by omega)
        exact ih v1 (v2 + (1 : Int32)) m (show 0 ≤ v1.toInt ∧ v1.toInt ≤ 4095 ∧ 0 ≤ (v2 + (1 : Int32)).toInt ∧ (v2 + (1 : Int32)).toInt ≤ 4096 ∧ 4096 - (v2 + (1 : Int32)).toInt < (n : Int) by omega) hI
      · have kc7 : 0 ≤ (m.1 51 1).toInt ∧ (m.1 51 1).toInt ≤ 4095 := hI.1 51 1
        have kc8 : 0 ≤ (v2 ^^^ (m.1 51 1)).toInt ∧ (v2 ^^^ (m.1 51 1)).toInt < 4096 := a_xor 12 (by decide) (by decide) (by omega) (by omega) (by omega) (by omega)
        have kc9 : 0 ≤ (v1 ||| (v2 ^^^ (m.1 51 1))).toInt ∧ (v1 ||| (v2 ^^^ (m.1 51 1))).toInt < 4096 := a_or 12 (by decide) (by decide) (by omega) (by omega) (by omega) (by omega)
        have kc10 : (v2 + (1 : Int32)).toInt = (v2).toInt + 1 := a_addl L1 (by omega) (by omega)
        exact ih (v1 ||| (v2 ^^^ (m.1 51 1))) (v2 + (1 : Int32)) m (show 0 ≤ (v1 ||| (v2 ^^^ (m.1 51 1))).toInt ∧ (v1 ||| (v2 ^^^ (m.1 51 1))).toInt ≤ 4095 ∧ 0 ≤ (v2 + (1 : Int32)).toInt ∧ (v2 + (1 : Int32)).toInt ≤ 4096 ∧ 4096 - (v2 + (1 : Int32)).toInt < (n : Int) by omega) hI
theorem zX0_differences (m : sm_S) (hI : zI m) : Sf (fun r => (0 ≤ r.toInt) ∧ (r.toInt ≤ 4095)) (fX0_differences m) := by
  have hfu := fuE
  unfold fX0_differences
  have kc1 := L0
  exact zX0_differences_4 sm_fu (0 : Int32) (0 : Int32) m (show 0 ≤ (0 : Int32).toInt ∧ (0 : Int32).toInt ≤ 4095 ∧ 0 ≤ (0 : Int32).toInt ∧ (0 : Int32).toInt ≤ 4096 ∧ 4096 - (0 : Int32).toInt < (sm_fu : Int) by omega) hI
theorem zX11_sure_38 (m0 : sm_S) : ∀ (n : Nat) (v2 : Int32) (v3 : Int32) (v4 : Int32) (m : sm_S), (0 ≤ v2.toInt ∧ v2.toInt ≤ 4095 ∧ 0 ≤ v3.toInt ∧ v3.toInt ≤ 63 ∧ 0 ≤ v4.toInt ∧ v4.toInt ≤ 6 ∧ 6 - v4.toInt < (n : Int)) → zI m → Fr wX11_sure m0 m → Sf (fun r => ((0 ≤ r.1.toInt) ∧ (r.1.toInt ≤ 63)) ∧ zI r.2 ∧ Fr wX11_sure m0 r.2) (fX11_sure_38 n v2 v3 v4 m) := by
  intro n
  induction n with
  | zero =>
    intro v2 v3 v4 m hp hI hF
    exfalso
    omega
  | succ n ih =>
    intro v2 v3 v4 m hp hI hF
    have hnn : ((n + 1 : Nat) : Int) = (n : Int) + 1 := by omega
    have hfu := fuE
    unfold fX11_sure_38
    have kc1 := L6
    refine s_le (fun kh2 => ?_) (fun kh2 => ?_)
    · exact s_ret ⟨(show (0 ≤ v3.toInt) ∧ (v3.toInt ≤ 63) by omega), hI, hF⟩
    · refine s_bd (zX0_cowsIn v2 v4 m (show 0 ≤ v2.toInt ∧ v2.toInt ≤ 4095 ∧ 0 ≤ v4.toInt ∧ v4.toInt ≤ 9 by omega) hI) (fun r8 kr3 => ?_)
      replace kr3 : (0 ≤ r8.toInt) ∧ (r8.toInt ≤ 3) := kr3
      have kc4 := L0
      refine s_eq (fun kh5 => ?_) (fun kh5 => ?_)
      · have kc6 : 0 ≤ (m.1 51 1).toInt ∧ (m.1 51 1).toInt ≤ 4095 := hI.1 51 1
        refine s_bd (zX0_cowsIn (m.1 51 1) v4 m (show 0 ≤ (m.1 51 1).toInt ∧ (m.1 51 1).toInt ≤ 4095 ∧ 0 ≤ v4.toInt ∧ v4.toInt ≤ 9 by omega) hI) (fun r10 kr7 => ?_)
        replace kr7 : (0 ≤ r10.toInt) ∧ (r10.toInt ≤ 3) := kr7
        refine s_bd (zX5_add r10 m hI) (fun m12 kr8 => ?_)
        obtain ⟨kp9, ki10, kf11⟩ := kr8
        have kc12 := L1
        have kc13 := L31
        have kc14 : 0 ≤ (v4 &&& (31 : Int32)).toInt ∧ (v4 &&& (31 : Int32)).toInt ≤ ((31 : Int32)).toInt := a_andr (by omega)
        have kc15 : 0 ≤ (v4 &&& (31 : Int32)).toInt ∧ (v4 &&& (31 : Int32)).toInt ≤ (v4).toInt := a_andl (by omega)
        have kc16 : 1 ≤ ((1 : Int32) <<< (v4 &&& (31 : Int32))).toInt ∧ ((1 : Int32) <<< (v4 &&& (31 : Int32))).toInt ≤ 32 := a_shl 5 (by decide) (by decide) (by omega) (by omega)
        have kc17 : 0 ≤ (v3 ||| ((1 : Int32) <<< (v4 &&& (31 : Int32)))).toInt ∧ (v3 ||| ((1 : Int32) <<< (v4 &&& (31 : Int32)))).toInt < 64 := a_or 6 (by decide) (by decide) (by omega) (by omega) (by omega) (by omega)
        have kc18 : (v4 + (1 : Int32)).toInt = (v4).toInt + 1 := a_addl L1 (by omega) (by omega)
        have kf19 : Fr wX11_sure m0 m12 := Fr.trans hF kf11 rfl
        exact ih v2 (v3 ||| ((1 : Int32) <<< (v4 &&& (31 : Int32)))) (v4 + (1 : Int32)) m12 (show 0 ≤ v2.toInt ∧ v2.toInt ≤ 4095 ∧ 0 ≤ (v3 ||| ((1 : Int32) <<< (v4 &&& (31 : Int32)))).toInt ∧ (v3 ||| ((1 : Int32) <<< (v4 &&& (31 : Int32)))).toInt ≤ 63 ∧ 0 ≤ (v4 + (1 : Int32)).toInt ∧ (v4 + (1 : Int32)).toInt ≤ 6 ∧ 6 - (v4 + (1 : Int32)).toInt < (n : Int) by omega) ki10 kf19
      · have kc20 : (v4 + (1 : Int32)).toInt = (v4).toInt + 1 := a_addl L1 (by omega) (by omega)
        exact ih v2 v3 (v4 + (1 : Int32)) m (show 0 ≤ v2.toInt ∧ v2.toInt ≤ 4095 ∧ 0 ≤ v3.toInt ∧ v3.toInt ≤ 63 ∧ 0 ≤ (v4 + (1 : Int32)).toInt ∧ (v4 + (1 : Int32)).toInt ≤ 6 ∧ 6 - (v4 + (1 : Int32)).toInt < (n : Int) by omega) hI hF
theorem zX11_sure (m : sm_S) (hI : zI m) : Sf (fun r => ((0 ≤ r.1.toInt) ∧ (r.1.toInt ≤ 63)) ∧ zI r.2 ∧ Fr wX11_sure m r.2) (fX11_sure m) := by
  have hfu := fuE
  unfold fX11_sure
  refine s_bd (zX0_findWays m hI) (fun r2 kr1 => ?_)
  obtain ⟨kp2, ki3, kf4⟩ := kr1
  refine s_bd (zX5_clear r2.2 ki3) (fun m4 kr5 => ?_)
  obtain ⟨kp6, ki7, kf8⟩ := kr5
  have kc9 := L0
  refine s_eq (fun kh10 => ?_) (fun kh10 => ?_)
  · have kf11 : Fr wX11_sure m r2.2 := Fr.trans Fr.refl kf4 rfl
    have kf12 : Fr wX11_sure m m4 := Fr.trans kf11 kf8 rfl
    exact s_ret ⟨(show (0 ≤ (0 : Int32).toInt) ∧ ((0 : Int32).toInt ≤ 63) by omega), ki7, kf12⟩
  · refine s_bd (zX0_differences m4 ki7) (fun r6 kr13 => ?_)
    replace kr13 : (0 ≤ r6.toInt) ∧ (r6.toInt ≤ 4095) := kr13
    have kf14 : Fr wX11_sure m r2.2 := Fr.trans Fr.refl kf4 rfl
    have kf15 : Fr wX11_sure m m4 := Fr.trans kf14 kf8 rfl
    exact zX11_sure_38 m sm_fu r6 (0 : Int32) (0 : Int32) m4 (show 0 ≤ r6.toInt ∧ r6.toInt ≤ 4095 ∧ 0 ≤ (0 : Int32).toInt ∧ (0 : Int32).toInt ≤ 63 ∧ 0 ≤ (0 : Int32).toInt ∧ (0 : Int32).toInt ≤ 6 ∧ 6 - (0 : Int32).toInt < (sm_fu : Int) by omega) ki7 kf15
theorem zX0_mostLeft_26 (m0 : sm_S) : ∀ (n : Nat) (v2 : Int32) (v3 : Int32) (v4 : Int32) (m : sm_S), (0 ≤ v2.toInt ∧ v2.toInt ≤ 13 ∧ 0 ≤ v3.toInt ∧ 0 ≤ v4.toInt ∧ v4.toInt ≤ 4096 ∧ 4096 - v4.toInt < (n : Int)) → zI m → Fr wX0_mostLeft m0 m → Sf (fun r => ((0 ≤ r.1.toInt)) ∧ zI r.2 ∧ Fr wX0_mostLeft m0 r.2) (fX0_mostLeft_26 n v2 v3 v4 m) := by
  intro n
  induction n with
  | zero =>
    intro v2 v3 v4 m hp hI hF
    have krgv3 := rg v3
    exfalso
    omega
  | succ n ih =>
    intro v2 v3 v4 m hp hI hF
    have hnn : ((n + 1 : Nat) : Int) = (n : Int) + 1 := by omega
    have hfu := fuE
    have krgv3 := rg v3
    unfold fX0_mostLeft_26
    have kc1 := L4096
    refine s_le (fun kh2 => ?_) (fun kh2 => ?_)
    · exact s_ret ⟨(show (0 ≤ v3.toInt) by omega), hI, hF⟩
    · refine s_bd (zX0_isFound v4 m (show 0 ≤ v4.toInt ∧ v4.toInt ≤ 4095 by omega) hI) (fun r2 kr3 => ?_)
      replace kr3 : (0 ≤ r2.toInt) ∧ (r2.toInt ≤ 1) := kr3
      have kc4 := L0
      refine s_eq (fun kh5 => ?_) (fun kh5 => ?_)
      · have kc6 : (v4 + (1 : Int32)).toInt = (v4).toInt + 1 := a_addl L1 (by omega) (by omega)
        exact ih v2 v3 (v4 + (1 : Int32)) m (show 0 ≤ v2.toInt ∧ v2.toInt ≤ 13 ∧ 0 ≤ v3.toInt ∧ 0 ≤ (v4 + (1 : Int32)).toInt ∧ (v4 + (1 : Int32)).toInt ≤ 4096 ∧ 4096 - (v4 + (1 : Int32)).toInt < (n : Int) by omega) hI hF
      · refine s_bd (zX0_cowsOver v2 v4 m (show 0 ≤ v2.toInt ∧ v2.toInt ≤ 13 ∧ 0 ≤ v4.toInt ∧ v4.toInt ≤ 4095 by omega) hI) (fun r4 kr7 => ?_)
        replace kr7 : (0 ≤ r4.toInt) ∧ (r4.toInt ≤ 6) := kr7
        have kx8 : 0 ≤ (r4).toInt ∧ (r4).toInt < (7 : Int) := by omega
        refine s_ix kx8 ?_
        refine s_ix kx8 ?_
        refine s_ix kx8 ?_
        have kc9 : ((sm_w1 m 55 (r4).toNatClampNeg ((m.1 55 (r4).toNatClampNeg) + (1 : Int32))).1 55 (r4).toNatClampNeg).toInt = (((m.1 55 (r4).toNatClampNeg) + (1 : Int32))).toInt := congrArg Int32.toInt r_hit
        have kc10 : ((v3).toInt < (((sm_w1 m 55 (r4).toNatClampNeg ((m.1 55 (r4).toNatClampNeg) + (1 : Int32))).1 55 (r4).toNatClampNeg)).toInt ∧ (if v3 < ((sm_w1 m 55 (r4).toNatClampNeg ((m.1 55 (r4).toNatClampNeg) + (1 : Int32))).1 55 (r4).toNatClampNeg) then ((sm_w1 m 55 (r4).toNatClampNeg ((m.1 55 (r4).toNatClampNeg) + (1 : Int32))).1 55 (r4).toNatClampNeg) else v3).toInt = (((sm_w1 m 55 (r4).toNatClampNeg ((m.1 55 (r4).toNatClampNeg) + (1 : Int32))).1 55 (r4).toNatClampNeg)).toInt) ∨ ((((sm_w1 m 55 (r4).toNatClampNeg ((m.1 55 (r4).toNatClampNeg) + (1 : Int32))).1 55 (r4).toNatClampNeg)).toInt ≤ (v3).toInt ∧ (if v3 < ((sm_w1 m 55 (r4).toNatClampNeg ((m.1 55 (r4).toNatClampNeg) + (1 : Int32))).1 55 (r4).toNatClampNeg) then ((sm_w1 m 55 (r4).toNatClampNeg ((m.1 55 (r4).toNatClampNeg) + (1 : Int32))).1 55 (r4).toNatClampNeg) else v3).toInt = (v3).toInt) := a_ilt
        have kc11 : (v4 + (1 : Int32)).toInt = (v4).toInt + 1 := a_addl L1 (by omega) (by omega)
        have ki12 : zI (sm_w1 m 55 (r4).toNatClampNeg ((m.1 55 (r4).toNatClampNeg) + (1 : Int32))) := zI.w hI rfl (rg _)
        have kf13 : Fr wX0_mostLeft m0 (sm_w1 m 55 (r4).toNatClampNeg ((m.1 55 (r4).toNatClampNeg) + (1 : Int32))) := Fr.w hF rfl
        exact ih v2 (if v3 < ((sm_w1 m 55 (r4).toNatClampNeg ((m.1 55 (r4).toNatClampNeg) + (1 : Int32))).1 55 (r4).toNatClampNeg) then ((sm_w1 m 55 (r4).toNatClampNeg ((m.1 55 (r4).toNatClampNeg) + (1 : Int32))).1 55 (r4).toNatClampNeg) else v3) (v4 + (1 : Int32)) (sm_w1 m 55 (r4).toNatClampNeg ((m.1 55 (r4).toNatClampNeg) + (1 : Int32))) (show 0 ≤ v2.toInt ∧ v2.toInt ≤ 13 ∧ 0 ≤ (if v3 < ((sm_w1 m 55 (r4).toNatClampNeg ((m.1 55 (r4).toNatClampNeg) + (1 : Int32))).1 55 (r4).toNatClampNeg) then ((sm_w1 m 55 (r4).toNatClampNeg ((m.1 55 (r4).toNatClampNeg) + (1 : Int32))).1 55 (r4).toNatClampNeg) else v3).toInt ∧ 0 ≤ (v4 + (1 : Int32)).toInt ∧ (v4 + (1 : Int32)).toInt ≤ 4096 ∧ 4096 - (v4 + (1 : Int32)).toInt < (n : Int) by omega) ki12 kf13
theorem zX0_mostLeft_2 (m0 : sm_S) : ∀ (n : Nat) (v2 : Int32) (v3 : Int32) (m : sm_S), (0 ≤ v2.toInt ∧ v2.toInt ≤ 13 ∧ 0 ≤ v3.toInt ∧ v3.toInt ≤ 7 ∧ 7 - v3.toInt < (n : Int)) → zI m → Fr wX0_mostLeft m0 m → Sf (fun r => ((0 ≤ r.1.toInt)) ∧ zI r.2 ∧ Fr wX0_mostLeft m0 r.2) (fX0_mostLeft_2 n v2 v3 m) := by
  intro n
  induction n with
  | zero =>
    intro v2 v3 m hp hI hF
    exfalso
    omega
  | succ n ih =>
    intro v2 v3 m hp hI hF
    have hnn : ((n + 1 : Nat) : Int) = (n : Int) + 1 := by omega
    have hfu := fuE
    unfold fX0_mostLeft_2
    have kc1 := L6
    refine s_lt (fun kh2 => ?_) (fun kh2 => ?_)
    · have kc3 := L0
      exact zX0_mostLeft_26 m0 sm_fu v2 (0 : Int32) (0 : Int32) m (show 0 ≤ v2.toInt ∧ v2.toInt ≤ 13 ∧ 0 ≤ (0 : Int32).toInt ∧ 0 ≤ (0 : Int32).toInt ∧ (0 : Int32).toInt ≤ 4096 ∧ 4096 - (0 : Int32).toInt < (sm_fu : Int) by omega) hI hF
    · have kx4 : 0 ≤ (v3).toInt ∧ (v3).toInt < (7 : Int) := by omega
      refine s_ix kx4 ?_
      have kc5 : (v3 + (1 : Int32)).toInt = (v3).toInt + 1 := a_addl L1 (by omega) (by omega)
      have kc6 := L0
      have ki7 : zI (sm_w1 m 55 (v3).toNatClampNeg (0 : Int32)) := zI.w hI rfl (rg _)
      have kf8 : Fr wX0_mostLeft m0 (sm_w1 m 55 (v3).toNatClampNeg (0 : Int32)) := Fr.w hF rfl
      exact ih v2 (v3 + (1 : Int32)) (sm_w1 m 55 (v3).toNatClampNeg (0 : Int32)) (show 0 ≤ v2.toInt ∧ v2.toInt ≤ 13 ∧ 0 ≤ (v3 + (1 : Int32)).toInt ∧ (v3 + (1 : Int32)).toInt ≤ 7 ∧ 7 - (v3 + (1 : Int32)).toInt < (n : Int) by omega) ki7 kf8
theorem zX0_mostLeft (x1 : Int32) (m : sm_S) (hp : 0 ≤ x1.toInt ∧ x1.toInt ≤ 13) (hI : zI m) : Sf (fun r => ((0 ≤ r.1.toInt)) ∧ zI r.2 ∧ Fr wX0_mostLeft m r.2) (fX0_mostLeft x1 m) := by
  have hfu := fuE
  unfold fX0_mostLeft
  have kc1 := L0
  exact zX0_mostLeft_2 m sm_fu x1 (0 : Int32) m (show 0 ≤ x1.toInt ∧ x1.toInt ≤ 13 ∧ 0 ≤ (0 : Int32).toInt ∧ (0 : Int32).toInt ≤ 7 ∧ 7 - (0 : Int32).toInt < (sm_fu : Int) by omega) hI Fr.refl
theorem zX11_next_38 (m0 : sm_S) : ∀ (n : Nat) (v2 : Int32) (v3 : Int32) (v4 : Int32) (m : sm_S), (0 ≤ v2.toInt ∧ v2.toInt ≤ 13 ∧ 0 ≤ v3.toInt ∧ v3.toInt ≤ 4097 ∧ 0 ≤ v4.toInt ∧ v4.toInt ≤ 14 ∧ 14 - v4.toInt < (n : Int)) → zI m → Fr wX11_next m0 m → Sf (fun r => (((-2 : Int) ≤ r.1.toInt) ∧ (r.1.toInt ≤ 13)) ∧ zI r.2 ∧ Fr wX11_next m0 r.2) (fX11_next_38 n v2 v3 v4 m) := by
  intro n
  induction n with
  | zero =>
    intro v2 v3 v4 m hp hI hF
    exfalso
    omega
  | succ n ih =>
    intro v2 v3 v4 m hp hI hF
    have hnn : ((n + 1 : Nat) : Int) = (n : Int) + 1 := by omega
    have hfu := fuE
    unfold fX11_next_38
    have kc1 : 0 ≤ (m.1 3 1).toInt ∧ (m.1 3 1).toInt ≤ 14 := hI.1 3 1
    refine s_le (fun kh2 => ?_) (fun kh2 => ?_)
    · refine s_bd (zX5_tell v3 m hI) (fun m4 kr3 => ?_)
      obtain ⟨kp4, ki5, kf6⟩ := kr3
      have kf7 : Fr wX11_next m0 m4 := Fr.trans hF kf6 rfl
      exact s_ret ⟨(show ((-2 : Int) ≤ v2.toInt) ∧ (v2.toInt ≤ 13) by omega), ki5, kf7⟩
    · refine s_bd (zX0_mostLeft v4 m (show 0 ≤ v4.toInt ∧ v4.toInt ≤ 13 by omega) hI) (fun r6 kr8 => ?_)
      obtain ⟨kp9, ki10, kf11⟩ := kr8
      replace kp9 : (0 ≤ r6.1.toInt) := kp9
      have kc12 := rg r6.1
      refine s_le (fun kh13 => ?_) (fun kh13 => ?_)
      · have kc14 : (v4 + (1 : Int32)).toInt = (v4).toInt + 1 := a_addl L1 (by omega) (by omega)
        have kf15 : Fr wX11_next m0 r6.2 := Fr.trans hF kf11 rfl
        exact ih v2 v3 (v4 + (1 : Int32)) r6.2 (show 0 ≤ v2.toInt ∧ v2.toInt ≤ 13 ∧ 0 ≤ v3.toInt ∧ v3.toInt ≤ 4097 ∧ 0 ≤ (v4 + (1 : Int32)).toInt ∧ (v4 + (1 : Int32)).toInt ≤ 14 ∧ 14 - (v4 + (1 : Int32)).toInt < (n : Int) by omega) ki10 kf15
      · have kc16 : (v4 + (1 : Int32)).toInt = (v4).toInt + 1 := a_addl L1 (by omega) (by omega)
        have kf17 : Fr wX11_next m0 r6.2 := Fr.trans hF kf11 rfl
        exact ih v4 r6.1 (v4 + (1 : Int32)) r6.2 (show 0 ≤ v4.toInt ∧ v4.toInt ≤ 13 ∧ 0 ≤ (r6.1).toInt ∧ (r6.1).toInt ≤ 4097 ∧ 0 ≤ (v4 + (1 : Int32)).toInt ∧ (v4 + (1 : Int32)).toInt ≤ 14 ∧ 14 - (v4 + (1 : Int32)).toInt < (n : Int) by omega) ki10 kf17
