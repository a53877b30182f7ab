theorem zX11_men (m : sm_S) (hI : zI m) : Sf (fun r => (True) ∧ zI r.2 ∧ Fr wX11_men m r.2) (fX11_men m) := by
  have hfu := fuE
  unfold fX11_men
  refine s_bd (zX2_everyHedge m hI) (fun r2 kr1 => ?_)
  replace kr1 : (0 ≤ r2.toInt) ∧ (r2.toInt ≤ 16383) := kr1
  refine s_bd (zX2_oddCorners r2 m (show 0 ≤ r2.toInt ∧ r2.toInt ≤ 16383 by omega) hI) (fun r4 kr2 => ?_)
  replace kr2 : (0 ≤ r4.toInt) ∧ (r4.toInt ≤ 1023) := kr2
  have kc3 := L0
  exact zX11_men_25 m sm_fu r4 (0 : Int32) (0 : Int32) (0 : Int32) (0 : Int32) m (show 0 ≤ r4.toInt ∧ r4.toInt ≤ 1023 ∧ 0 ≤ (0 : Int32).toInt ∧ (0 : Int32).toInt ≤ 1023 ∧ 0 ≤ (0 : Int32).toInt ∧ (0 : Int32).toInt ≤ 14 ∧ 14 - (0 : Int32).toInt < (sm_fu : Int) by omega) hI Fr.refl
theorem zX2_holdsAll_2 : ∀ (n : Nat) (v1 : Int32) (v2 : Int32) (v3 : Int32) (m : sm_S), (0 ≤ v1.toInt ∧ v1.toInt ≤ 1023 ∧ 0 ≤ v2.toInt ∧ v2.toInt ≤ 16383 ∧ 0 ≤ v3.toInt ∧ v3.toInt ≤ 14 ∧ 14 - v3.toInt < (n : Int)) → zI m → Sf (fun r => (0 ≤ r.toInt) ∧ (r.toInt ≤ 1)) (fX2_holdsAll_2 n v1 v2 v3 m) := by
  intro n
  induction n with
  | zero =>
    intro v1 v2 v3 m hp hI
    exfalso
    omega
  | succ n ih =>
    intro v1 v2 v3 m hp hI
    have hnn : ((n + 1 : Nat) : Int) = (n : Int) + 1 := by omega
    have hfu := fuE
    unfold fX2_holdsAll_2
    have kc1 : 0 ≤ (m.1 3 1).toInt ∧ (m.1 3 1).toInt ≤ 14 := hI.1 3 1
    refine s_le (fun kh2 => ?_) (fun kh2 => ?_)
    · have kc3 := L1
      exact s_ret (show (0 ≤ (1 : Int32).toInt) ∧ ((1 : Int32).toInt ≤ 1) by omega)
    · have kc4 := L31
      have kc5 : 0 ≤ (v3 &&& (31 : Int32)).toInt ∧ (v3 &&& (31 : Int32)).toInt ≤ ((31 : Int32)).toInt := a_andr (by omega)
      have kc6 : 0 ≤ (v3 &&& (31 : Int32)).toInt ∧ (v3 &&& (31 : Int32)).toInt ≤ (v3).toInt := a_andl (by omega)
      have kc7 : 0 ≤ (v2 >>> (v3 &&& (31 : Int32))).toInt ∧ (v2 >>> (v3 &&& (31 : Int32))).toInt ≤ (v2).toInt := a_shr (by omega)
      have kc8 := L1
      have kc9 : 0 ≤ ((v2 >>> (v3 &&& (31 : Int32))) &&& (1 : Int32)).toInt ∧ ((v2 >>> (v3 &&& (31 : Int32))) &&& (1 : Int32)).toInt ≤ ((1 : Int32)).toInt := a_andr (by omega)
      have kc10 : 0 ≤ ((v2 >>> (v3 &&& (31 : Int32))) &&& (1 : Int32)).toInt ∧ ((v2 >>> (v3 &&& (31 : Int32))) &&& (1 : Int32)).toInt ≤ ((v2 >>> (v3 &&& (31 : Int32)))).toInt := a_andl (by omega)
      have kc11 := L0
      refine s_eq (fun kh12 => ?_) (fun kh12 => ?_)
      · have kc13 : (v3 + (1 : Int32)).toInt = (v3).toInt + 1 := a_addl L1 (by omega) (by omega)
        exact ih v1 v2 (v3 + (1 : Int32)) m (show 0 ≤ v1.toInt ∧ v1.toInt ≤ 1023 ∧ 0 ≤ v2.toInt ∧ v2.toInt ≤ 16383 ∧ 0 ≤ (v3 + (1 : Int32)).toInt ∧ (v3 + (1 : Int32)).toInt ≤ 14 ∧ 14 - (v3 + (1 : Int32)).toInt < (n : Int) by omega) hI
      · have kx14 : 0 ≤ (v3).toInt ∧ (v3).toInt < (14 : Int) := by omega
        refine s_ix kx14 ?_
        have kc15 : 0 ≤ (m.1 6 (v3).toNatClampNeg).toInt ∧ (m.1 6 (v3).toNatClampNeg).toInt ≤ 9 := hI.1 6 (v3).toNatClampNeg
        have kc16 : 0 ≤ ((m.1 6 (v3).toNatClampNeg) &&& (31 : Int32)).toInt ∧ ((m.1 6 (v3).toNatClampNeg) &&& (31 : Int32)).toInt ≤ ((31 : Int32)).toInt := a_andr (by omega)
        have kc17 : 0 ≤ ((m.1 6 (v3).toNatClampNeg) &&& (31 : Int32)).toInt ∧ ((m.1 6 (v3).toNatClampNeg) &&& (31 : Int32)).toInt ≤ ((m.1 6 (v3).toNatClampNeg)).toInt := a_andl (by omega)
        have kc18 : 0 ≤ (v1 >>> ((m.1 6 (v3).toNatClampNeg) &&& (31 : Int32))).toInt ∧ (v1 >>> ((m.1 6 (v3).toNatClampNeg) &&& (31 : Int32))).toInt ≤ (v1).toInt := a_shr (by omega)
        have kc19 : 0 ≤ ((v1 >>> ((m.1 6 (v3).toNatClampNeg) &&& (31 : Int32))) &&& (1 : Int32)).toInt ∧ ((v1 >>> ((m.1 6 (v3).toNatClampNeg) &&& (31 : Int32))) &&& (1 : Int32)).toInt ≤ ((1 : Int32)).toInt := a_andr (by omega)
        have kc20 : 0 ≤ ((v1 >>> ((m.1 6 (v3).toNatClampNeg) &&& (31 : Int32))) &&& (1 : Int32)).toInt ∧ ((v1 >>> ((m.1 6 (v3).toNatClampNeg) &&& (31 : Int32))) &&& (1 : Int32)).toInt ≤ ((v1 >>> ((m.1 6 (v3).toNatClampNeg) &&& (31 : Int32)))).toInt := a_andl (by omega)
        refine s_eq (fun kh21 => ?_) (fun kh21 => ?_)
        · exact s_ret (show (0 ≤ (0 : Int32).toInt) ∧ ((0 : Int32).toInt ≤ 1) by omega)
        · have kc22 : (v3 + (1 : Int32)).toInt = (v3).toInt + 1 := a_addl L1 (by omega) (by omega)
          exact ih v1 v2 (v3 + (1 : Int32)) m (show 0 ≤ v1.toInt ∧ v1.toInt ≤ 1023 ∧ 0 ≤ v2.toInt ∧ v2.toInt ≤ 16383 ∧ 0 ≤ (v3 + (1 : Int32)).toInt ∧ (v3 + (1 : Int32)).toInt ≤ 14 ∧ 14 - (v3 + (1 : Int32)).toInt < (n : Int) by omega) hI
theorem zX2_holdsAll (x1 : Int32) (x2 : Int32) (m : sm_S) (hp : 0 ≤ x1.toInt ∧ x1.toInt ≤ 1023 ∧ 0 ≤ x2.toInt ∧ x2.toInt ≤ 16383) (hI : zI m) : Sf (fun r => (0 ≤ r.toInt) ∧ (r.toInt ≤ 1)) (fX2_holdsAll x1 x2 m) := by
  have hfu := fuE
  unfold fX2_holdsAll
  have kc1 := L0
  exact zX2_holdsAll_2 sm_fu x1 x2 (0 : Int32) m (show 0 ≤ x1.toInt ∧ x1.toInt ≤ 1023 ∧ 0 ≤ x2.toInt ∧ x2.toInt ≤ 16383 ∧ 0 ≤ (0 : Int32).toInt ∧ (0 : Int32).toInt ≤ 14 ∧ 14 - (0 : Int32).toInt < (sm_fu : Int) by omega) hI
theorem zX2_isTrail (x1 : Int32) (x2 : Int32) (m : sm_S) (hp : 0 ≤ x1.toInt ∧ x1.toInt ≤ 9 ∧ 0 ≤ x2.toInt ∧ x2.toInt ≤ 16383) (hI : zI m) : Sf (fun r => (0 ≤ r.toInt) ∧ (r.toInt ≤ 1)) (fX2_isTrail x1 x2 m) := by
  have hfu := fuE
  unfold fX2_isTrail
  refine s_bd (zX2_oddCorners x2 m (show 0 ≤ x2.toInt ∧ x2.toInt ≤ 16383 by omega) hI) (fun r2 kr1 => ?_)
  replace kr1 : (0 ≤ r2.toInt) ∧ (r2.toInt ≤ 1023) := kr1
  have kc2 := L0
  refine s_eq (fun kh3 => ?_) (fun kh3 => ?_)
  · refine s_bd (zX2_hanging x1 x2 m (show 0 ≤ x1.toInt ∧ x1.toInt ≤ 9 ∧ 0 ≤ x2.toInt ∧ x2.toInt ≤ 16383 by omega) hI) (fun r4 kr4 => ?_)
    replace kr4 : (0 ≤ r4.toInt) ∧ (r4.toInt ≤ 1023) := kr4
    refine s_bd (zX2_holdsAll r4 x2 m (show 0 ≤ r4.toInt ∧ r4.toInt ≤ 1023 ∧ 0 ≤ x2.toInt ∧ x2.toInt ≤ 16383 by omega) hI) (fun r6 kr5 => ?_)
    replace kr5 : (0 ≤ r6.toInt) ∧ (r6.toInt ≤ 1) := kr5
    refine s_eq (fun kh6 => ?_) (fun kh6 => ?_)
    · exact s_ret (show (0 ≤ (0 : Int32).toInt) ∧ ((0 : Int32).toInt ≤ 1) by omega)
    · have kc7 := L1
      exact s_ret (show (0 ≤ (1 : Int32).toInt) ∧ ((1 : Int32).toInt ≤ 1) by omega)
  · refine s_bd (zJ6_bitCount_0f7a4 r2 m (show 0 ≤ r2.toInt ∧ r2.toInt ≤ 16383 by omega) hI) (fun r8 kr8 => ?_)
    replace kr8 : (0 ≤ r8.toInt) ∧ (r8.toInt ≤ 63) := kr8
    have kc9 := L2
    refine s_eq (fun kh10 => ?_) (fun kh10 => ?_)
    · have kc11 := L31
      have kc12 : 0 ≤ (x1 &&& (31 : Int32)).toInt ∧ (x1 &&& (31 : Int32)).toInt ≤ ((31 : Int32)).toInt := a_andr (by omega)
      have kc13 : 0 ≤ (x1 &&& (31 : Int32)).toInt ∧ (x1 &&& (31 : Int32)).toInt ≤ (x1).toInt := a_andl (by omega)
      have kc14 : 0 ≤ (r2 >>> (x1 &&& (31 : Int32))).toInt ∧ (r2 >>> (x1 &&& (31 : Int32))).toInt ≤ (r2).toInt := a_shr (by omega)
      have kc15 := L1
      have kc16 : 0 ≤ ((r2 >>> (x1 &&& (31 : Int32))) &&& (1 : Int32)).toInt ∧ ((r2 >>> (x1 &&& (31 : Int32))) &&& (1 : Int32)).toInt ≤ ((1 : Int32)).toInt := a_andr (by omega)
      have kc17 : 0 ≤ ((r2 >>> (x1 &&& (31 : Int32))) &&& (1 : Int32)).toInt ∧ ((r2 >>> (x1 &&& (31 : Int32))) &&& (1 : Int32)).toInt ≤ ((r2 >>> (x1 &&& (31 : Int32)))).toInt := a_andl (by omega)
      refine s_eq (fun kh18 => ?_) (fun kh18 => ?_)
      · exact s_ret (show (0 ≤ (0 : Int32).toInt) ∧ ((0 : Int32).toInt ≤ 1) by omega)
      · refine s_bd (zX2_hanging x1 x2 m (show 0 ≤ x1.toInt ∧ x1.toInt ≤ 9 ∧ 0 ≤ x2.toInt ∧ x2.toInt ≤ 16383 by omega) hI) (fun r10 kr19 => ?_)
        replace kr19 : (0 ≤ r10.toInt) ∧ (r10.toInt ≤ 1023) := kr19
        refine s_bd (zX2_holdsAll r10 x2 m (show 0 ≤ r10.toInt ∧ r10.toInt ≤ 1023 ∧ 0 ≤ x2.toInt ∧ x2.toInt ≤ 16383 by omega) hI) (fun r12 kr20 => ?_)
        replace kr20 : (0 ≤ r12.toInt) ∧ (r12.toInt ≤ 1) := kr20
        refine s_eq (fun kh21 => ?_) (fun kh21 => ?_)
        · exact s_ret (show (0 ≤ (0 : Int32).toInt) ∧ ((0 : Int32).toInt ≤ 1) by omega)
        · exact s_ret (show (0 ≤ (1 : Int32).toInt) ∧ ((1 : Int32).toInt ≤ 1) by omega)
    · exact s_ret (show (0 ≤ (0 : Int32).toInt) ∧ ((0 : Int32).toInt ≤ 1) by omega)
theorem zX4_leastStep_2 : ∀ (n : Nat) (v1 : Int32) (v2 : Int32) (v3 : Int32) (m : sm_S), (0 ≤ v1.toInt ∧ v1.toInt ≤ 9 ∧ 0 ≤ v2.toInt ∧ v2.toInt ≤ 16383 ∧ 0 ≤ v3.toInt ∧ v3.toInt ≤ 14 ∧ 14 - v3.toInt < (n : Int)) → zI m → Sf (fun r => ((-1 : Int) ≤ r.toInt) ∧ (r.toInt ≤ 13)) (fX4_leastStep_2 n v1 v2 v3 m) := by
  intro n
  induction n with
  | zero =>
    intro v1 v2 v3 m hp hI
    exfalso
    omega
  | succ n ih =>
    intro v1 v2 v3 m hp hI
    have hnn : ((n + 1 : Nat) : Int) = (n : Int) + 1 := by omega
    have hfu := fuE
    unfold fX4_leastStep_2
    have kc1 : 0 ≤ (m.1 3 1).toInt ∧ (m.1 3 1).toInt ≤ 14 := hI.1 3 1
    refine s_le (fun kh2 => ?_) (fun kh2 => ?_)
    · have kc3 := Ln1
      exact s_ret (show ((-1 : Int) ≤ (-1 : Int32).toInt) ∧ ((-1 : Int32).toInt ≤ 13) by omega)
    · have kc4 := L31
      have kc5 : 0 ≤ (v3 &&& (31 : Int32)).toInt ∧ (v3 &&& (31 : Int32)).toInt ≤ ((31 : Int32)).toInt := a_andr (by omega)
      have kc6 : 0 ≤ (v3 &&& (31 : Int32)).toInt ∧ (v3 &&& (31 : Int32)).toInt ≤ (v3).toInt := a_andl (by omega)
      have kc7 : 0 ≤ (v2 >>> (v3 &&& (31 : Int32))).toInt ∧ (v2 >>> (v3 &&& (31 : Int32))).toInt ≤ (v2).toInt := a_shr (by omega)
      have kc8 := L1
      have kc9 : 0 ≤ ((v2 >>> (v3 &&& (31 : Int32))) &&& (1 : Int32)).toInt ∧ ((v2 >>> (v3 &&& (31 : Int32))) &&& (1 : Int32)).toInt ≤ ((1 : Int32)).toInt := a_andr (by omega)
      have kc10 : 0 ≤ ((v2 >>> (v3 &&& (31 : Int32))) &&& (1 : Int32)).toInt ∧ ((v2 >>> (v3 &&& (31 : Int32))) &&& (1 : Int32)).toInt ≤ ((v2 >>> (v3 &&& (31 : Int32)))).toInt := a_andl (by omega)
      have kc11 := L0
      refine s_eq (fun kh12 => ?_) (fun kh12 => ?_)
      · have kc13 : (v3 + (1 : Int32)).toInt = (v3).toInt + 1 := a_addl L1 (by omega) (by omega)
        exact ih v1 v2 (v3 + (1 : Int32)) m (show 0 ≤ v1.toInt ∧ v1.toInt ≤ 9 ∧ 0 ≤ v2.toInt ∧ v2.toInt ≤ 16383 ∧ 0 ≤ (v3 + (1 : Int32)).toInt ∧ (v3 + (1 : Int32)).toInt ≤ 14 ∧ 14 - (v3 + (1 : Int32)).toInt < (n : Int) by omega) hI
      · refine s_bd (zX2_touches v3 v1 m (show 0 ≤ v3.toInt ∧ v3.toInt ≤ 13 ∧ 0 ≤ v1.toInt ∧ v1.toInt ≤ 15 by omega) hI) (fun r2 kr14 => ?_)
        replace kr14 : (0 ≤ r2.toInt) ∧ (r2.toInt ≤ 1) := kr14
        refine s_eq (fun kh15 => ?_) (fun kh15 => ?_)
        · have kc16 : (v3 + (1 : Int32)).toInt = (v3).toInt + 1 := a_addl L1 (by omega) (by omega)
          exact ih v1 v2 (v3 + (1 : Int32)) m (show 0 ≤ v1.toInt ∧ v1.toInt ≤ 9 ∧ 0 ≤ v2.toInt ∧ v2.toInt ≤ 16383 ∧ 0 ≤ (v3 + (1 : Int32)).toInt ∧ (v3 + (1 : Int32)).toInt ≤ 14 ∧ 14 - (v3 + (1 : Int32)).toInt < (n : Int) by omega) hI
        · refine s_bd (zX2_otherEnd v3 v1 m (show 0 ≤ v3.toInt ∧ v3.toInt ≤ 13 ∧ 0 ≤ v1.toInt ∧ v1.toInt ≤ 15 by omega) hI) (fun r4 kr17 => ?_)
          replace kr17 : (0 ≤ r4.toInt) ∧ (r4.toInt ≤ 9) := kr17
          have kc18 : 1 ≤ ((1 : Int32) <<< (v3 &&& (31 : Int32))).toInt ∧ ((1 : Int32) <<< (v3 &&& (31 : Int32))).toInt ≤ 8192 := a_shl 13 (by decide) (by decide) (by omega) (by omega)
          have kc19 := Ln1
          have kc20 : 0 ≤ (v2 &&& (((1 : Int32) <<< (v3 &&& (31 : Int32))) ^^^ (-1 : Int32))).toInt ∧ (v2 &&& (((1 : Int32) <<< (v3 &&& (31 : Int32))) ^^^ (-1 : Int32))).toInt ≤ (v2).toInt := a_andl (by omega)
          refine s_bd (zX2_isTrail r4 (v2 &&& (((1 : Int32) <<< (v3 &&& (31 : Int32))) ^^^ (-1 : Int32))) m (show 0 ≤ r4.toInt ∧ r4.toInt ≤ 9 ∧ 0 ≤ (v2 &&& (((1 : Int32) <<< (v3 &&& (31 : Int32))) ^^^ (-1 : Int32))).toInt ∧ (v2 &&& (((1 : Int32) <<< (v3 &&& (31 : Int32))) ^^^ (-1 : Int32))).toInt ≤ 16383 by omega) hI) (fun r6 kr21 => ?_)
          replace kr21 : (0 ≤ r6.toInt) ∧ (r6.toInt ≤ 1) := kr21
          refine s_eq (fun kh22 => ?_) (fun kh22 => ?_)
          · have kc23 : (v3 + (1 : Int32)).toInt = (v3).toInt + 1 := a_addl L1 (by omega) (by omega)
            exact ih v1 v2 (v3 + (1 : Int32)) m (show 0 ≤ v1.toInt ∧ v1.toInt ≤ 9 ∧ 0 ≤ v2.toInt ∧ v2.toInt ≤ 16383 ∧ 0 ≤ (v3 + (1 : Int32)).toInt ∧ (v3 + (1 : Int32)).toInt ≤ 14 ∧ 14 - (v3 + (1 : Int32)).toInt < (n : Int) by omega) hI
          · exact s_ret (show ((-1 : Int) ≤ v3.toInt) ∧ (v3.toInt ≤ 13) by omega)
theorem zX4_leastStep (x1 : Int32) (x2 : Int32) (m : sm_S) (hp : 0 ≤ x1.toInt ∧ x1.toInt ≤ 9 ∧ 0 ≤ x2.toInt ∧ x2.toInt ≤ 16383) (hI : zI m) : Sf (fun r => ((-1 : Int) ≤ r.toInt) ∧ (r.toInt ≤ 13)) (fX4_leastStep x1 x2 m) := by
  have hfu := fuE
  unfold fX4_leastStep
  have kc1 := L0
  exact zX4_leastStep_2 sm_fu x1 x2 (0 : Int32) m (show 0 ≤ x1.toInt ∧ x1.toInt ≤ 9 ∧ 0 ≤ x2.toInt ∧ x2.toInt ≤ 16383 ∧ 0 ≤ (0 : Int32).toInt ∧ (0 : Int32).toInt ≤ 14 ∧ 14 - (0 : Int32).toInt < (sm_fu : Int) by omega) hI
theorem zX4_leastTrail_19 (m0 : sm_S) : ∀ (n : Nat) (v4 : Int32) (v5 : Int32) (v6 : Int32) (v7 : Int32) (m : sm_S), (0 ≤ v4.toInt ∧ v4.toInt ≤ 16383 ∧ 0 ≤ v5.toInt ∧ v5.toInt ≤ 9 ∧ 0 ≤ v7.toInt ∧ v7.toInt ≤ 14 ∧ 14 - v7.toInt < (n : Int)) → zI m → Fr wX4_leastTrail m0 m → Sf (fun r => (True) ∧ zI r.2 ∧ Fr wX4_leastTrail m0 r.2) (fX4_leastTrail_19 n v4 v5 v6 v7 m) := by
  intro n
  induction n with
  | zero =>
    intro v4 v5 v6 v7 m hp hI hF
    exfalso
    omega
  | succ n ih =>
    intro v4 v5 v6 v7 m hp hI hF
    have hnn : ((n + 1 : Nat) : Int) = (n : Int) + 1 := by omega
    have hfu := fuE
    unfold fX4_leastTrail_19
    have kc1 : 0 ≤ (m.1 3 1).toInt ∧ (m.1 3 1).toInt ≤ 14 := hI.1 3 1
    refine s_le (fun kh2 => ?_) (fun kh2 => ?_)
    · exact s_ret ⟨trivial, hI, hF⟩
    · refine s_bd (zX4_leastStep v5 v4 m (show 0 ≤ v5.toInt ∧ v5.toInt ≤ 9 ∧ 0 ≤ v4.toInt ∧ v4.toInt ≤ 16383 by omega) hI) (fun r6 kr3 => ?_)
      replace kr3 : ((-1 : Int) ≤ r6.toInt) ∧ (r6.toInt ≤ 13) := kr3
      have kc4 := L0
      refine s_le (fun kh5 => ?_) (fun kh5 => ?_)
      · refine s_bd (zX5_add r6 m hI) (fun m8 kr6 => ?_)
        obtain ⟨kp7, ki8, kf9⟩ := kr6
        refine s_bd (zX2_minutesFrom r6 v5 m8 (show 0 ≤ r6.toInt ∧ r6.toInt ≤ 13 ∧ 0 ≤ v5.toInt ∧ v5.toInt ≤ 15 by omega) ki8) (fun r10 kr10 => ?_)
        replace kr10 : (0 ≤ r10.toInt) ∧ (r10.toInt ≤ 29) := kr10
        refine s_bd (zX2_otherEnd r6 v5 m8 (show 0 ≤ r6.toInt ∧ r6.toInt ≤ 13 ∧ 0 ≤ v5.toInt ∧ v5.toInt ≤ 15 by omega) ki8) (fun r12 kr11 => ?_)
        replace kr11 : (0 ≤ r12.toInt) ∧ (r12.toInt ≤ 9) := kr11
        have kc12 := L1
        have kc13 := L31
        have kc14 : 0 ≤ (r6 &&& (31 : Int32)).toInt ∧ (r6 &&& (31 : Int32)).toInt ≤ ((31 : Int32)).toInt := a_andr (by omega)
        have kc15 : 0 ≤ (r6 &&& (31 : Int32)).toInt ∧ (r6 &&& (31 : Int32)).toInt ≤ (r6).toInt := a_andl (by omega)
        have kc16 : 1 ≤ ((1 : Int32) <<< (r6 &&& (31 : Int32))).toInt ∧ ((1 : Int32) <<< (r6 &&& (31 : Int32))).toInt ≤ 8192 := a_shl 13 (by decide) (by decide) (by omega) (by omega)
        have kc17 := Ln1
        have kc18 : 0 ≤ (v4 &&& (((1 : Int32) <<< (r6 &&& (31 : Int32))) ^^^ (-1 : Int32))).toInt ∧ (v4 &&& (((1 : Int32) <<< (r6 &&& (31 : Int32))) ^^^ (-1 : Int32))).toInt ≤ (v4).toInt := a_andl (by omega)
        have kc19 : (v7 + (1 : Int32)).toInt = (v7).toInt + 1 := a_addl L1 (by omega) (by omega)
        have kf20 : Fr wX4_leastTrail m0 m8 := Fr.trans hF kf9 rfl
        exact ih (v4 &&& (((1 : Int32) <<< (r6 &&& (31 : Int32))) ^^^ (-1 : Int32))) r12 (v6 + r10) (v7 + (1 : Int32)) m8 (show 0 ≤ (v4 &&& (((1 : Int32) <<< (r6 &&& (31 : Int32))) ^^^ (-1 : Int32))).toInt ∧ (v4 &&& (((1 : Int32) <<< (r6 &&& (31 : Int32))) ^^^ (-1 : Int32))).toInt ≤ 16383 ∧ 0 ≤ r12.toInt ∧ r12.toInt ≤ 9 ∧ 0 ≤ (v7 + (1 : Int32)).toInt ∧ (v7 + (1 : Int32)).toInt ≤ 14 ∧ 14 - (v7 + (1 : Int32)).toInt < (n : Int) by omega) ki8 kf20
      · exact s_ret ⟨trivial, hI, hF⟩
theorem zX4_leastTrail (x1 : Int32) (m : sm_S) (hp : 0 ≤ x1.toInt ∧ x1.toInt ≤ 9) (hI : zI m) : Sf (fun r => (True) ∧ zI r.2 ∧ Fr wX4_leastTrail m r.2) (fX4_leastTrail x1 m) := by
  have hfu := fuE
  unfold fX4_leastTrail
  refine s_bd (zX5_clear m hI) (fun m2 kr1 => ?_)
  obtain ⟨kp2, ki3, kf4⟩ := kr1
  refine s_bd (zX2_everyHedge m2 ki3) (fun r4 kr5 => ?_)
  replace kr5 : (0 ≤ r4.toInt) ∧ (r4.toInt ≤ 16383) := kr5
  have kc6 := L0
  have kf7 : Fr wX4_leastTrail m m2 := Fr.trans Fr.refl kf4 rfl
  exact zX4_leastTrail_19 m sm_fu r4 x1 (0 : Int32) (0 : Int32) m2 (show 0 ≤ r4.toInt ∧ r4.toInt ≤ 16383 ∧ 0 ≤ x1.toInt ∧ x1.toInt ≤ 9 ∧ 0 ≤ (0 : Int32).toInt ∧ (0 : Int32).toInt ≤ 14 ∧ 14 - (0 : Int32).toInt < (sm_fu : Int) by omega) ki3 kf7
theorem zX11_trail (x1 : Int32) (m : sm_S) (hI : zI m) : Sf (fun r => (True) ∧ zI r.2 ∧ Fr wX11_trail m r.2) (fX11_trail x1 m) := by
  have hfu := fuE
  unfold fX11_trail
  refine s_bd (zX2_hasCorner x1 m hI) (fun r2 kr1 => ?_)
  replace kr1 : (0 ≤ r2.toInt) ∧ (r2.toInt ≤ 1) ∧ ((r2.toInt = 0 ∧ (x1.toInt < 0 ∨ (m.1 3 0).toInt ≤ x1.toInt)) ∨ (r2.toInt = 1 ∧ 0 ≤ x1.toInt ∧ x1.toInt < (m.1 3 0).toInt)) := kr1
  have kc2 := L0
  have kc3 : 0 ≤ (m.1 3 0).toInt ∧ (m.1 3 0).toInt ≤ 10 := hI.1 3 0
  refine s_eq (fun kh4 => ?_) (fun kh4 => ?_)
  · have kc5 := Ln1
    exact s_ret ⟨trivial, hI, Fr.refl⟩
  · refine s_bd (zX2_everyHedge m hI) (fun r4 kr6 => ?_)
    replace kr6 : (0 ≤ r4.toInt) ∧ (r4.toInt ≤ 16383) := kr6
    refine s_bd (zX2_isTrail x1 r4 m (show 0 ≤ x1.toInt ∧ x1.toInt ≤ 9 ∧ 0 ≤ r4.toInt ∧ r4.toInt ≤ 16383 by omega) hI) (fun r6 kr7 => ?_)
    replace kr7 : (0 ≤ r6.toInt) ∧ (r6.toInt ≤ 1) := kr7
    refine s_eq (fun kh8 => ?_) (fun kh8 => ?_)
    · have kc9 := Ln2
      exact s_ret ⟨trivial, hI, Fr.refl⟩
    · refine s_bd (zX4_leastTrail x1 m (show 0 ≤ x1.toInt ∧ x1.toInt ≤ 9 by omega) hI) (fun r8 kr10 => ?_)
      obtain ⟨kp11, ki12, kf13⟩ := kr10
      have kf14 : Fr wX11_trail m r8.2 := Fr.trans Fr.refl kf13 rfl
      exact s_ret ⟨trivial, ki12, kf14⟩
theorem zX2_hangsTogether (m : sm_S) (hI : zI m) : Sf (fun r => (0 ≤ r.toInt) ∧ (r.toInt ≤ 1)) (fX2_hangsTogether m) := by
  have hfu := fuE
  unfold fX2_hangsTogether
  have kc1 : 0 ≤ (m.1 3 1).toInt ∧ (m.1 3 1).toInt ≤ 14 := hI.1 3 1
  have kc2 := L0
  refine s_eq (fun kh3 => ?_) (fun kh3 => ?_)
  · have kc4 := L1
    exact s_ret (show (0 ≤ (1 : Int32).toInt) ∧ ((1 : Int32).toInt ≤ 1) by omega)
  · refine s_bd (zX2_everyHedge m hI) (fun r2 kr5 => ?_)
    replace kr5 : (0 ≤ r2.toInt) ∧ (r2.toInt ≤ 16383) := kr5
    have kc6 : 0 ≤ (m.1 6 0).toInt ∧ (m.1 6 0).toInt ≤ 9 := hI.1 6 0
    refine s_bd (zX2_hanging (m.1 6 0) r2 m (show 0 ≤ (m.1 6 0).toInt ∧ (m.1 6 0).toInt ≤ 9 ∧ 0 ≤ r2.toInt ∧ r2.toInt ≤ 16383 by omega) hI) (fun r4 kr7 => ?_)
    replace kr7 : (0 ≤ r4.toInt) ∧ (r4.toInt ≤ 1023) := kr7
    refine s_bd (zX2_everyHedge m hI) (fun r6 kr8 => ?_)
    replace kr8 : (0 ≤ r6.toInt) ∧ (r6.toInt ≤ 16383) := kr8
    refine s_bd (zX2_holdsAll r4 r6 m (show 0 ≤ r4.toInt ∧ r4.toInt ≤ 1023 ∧ 0 ≤ r6.toInt ∧ r6.toInt ≤ 16383 by omega) hI) (fun r8 kr9 => ?_)
    replace kr9 : (0 ≤ r8.toInt) ∧ (r8.toInt ≤ 1) := kr9
    refine s_eq (fun kh10 => ?_) (fun kh10 => ?_)
    · exact s_ret (show (0 ≤ (0 : Int32).toInt) ∧ ((0 : Int32).toInt ≤ 1) by omega)
    · have kc11 := L1
      exact s_ret (show (0 ≤ (1 : Int32).toInt) ∧ ((1 : Int32).toInt ≤ 1) by omega)
theorem zX4_sortEnds_32 (m0 : sm_S) : ∀ (n : Nat) (v2 : Int32) (m : sm_S), (0 ≤ v2.toInt ∧ v2.toInt ≤ 14 ∧ 14 - v2.toInt < (n : Int)) → zI m → Fr wX4_sortEnds m0 m → Sf (fun r => (True) ∧ zI r ∧ Fr wX4_sortEnds m0 r) (fX4_sortEnds_32 n v2 m) := by
  intro n
  induction n with
  | zero =>
    intro v2 m hp hI hF
    exfalso
    omega
  | succ n ih =>
    intro v2 m hp hI hF
    have hnn : ((n + 1 : Nat) : Int) = (n : Int) + 1 := by omega
    have hfu := fuE
    unfold fX4_sortEnds_32
    have kc1 : 0 ≤ (m.1 3 1).toInt ∧ (m.1 3 1).toInt ≤ 14 := hI.1 3 1
    refine s_le (fun kh2 => ?_) (fun kh2 => ?_)
    · exact s_ret ⟨trivial, hI, hF⟩
    · have kx3 : 0 ≤ (v2).toInt ∧ (v2).toInt < (14 : Int) := by omega
      refine s_ix kx3 ?_
      have kc4 : 0 ≤ (m.1 6 (v2).toNatClampNeg).toInt ∧ (m.1 6 (v2).toNatClampNeg).toInt ≤ 9 := hI.1 6 (v2).toNatClampNeg
      have kx5 : 0 ≤ ((m.1 6 (v2).toNatClampNeg)).toInt ∧ ((m.1 6 (v2).toNatClampNeg)).toInt < (10 : Int) := by omega
      refine s_ix kx5 ?_
      refine s_ix kx5 ?_
      refine s_ix kx3 ?_
      have kc6 : 0 ≤ (m.1 7 (v2).toNatClampNeg).toInt ∧ (m.1 7 (v2).toNatClampNeg).toInt ≤ 9 := hI.1 7 (v2).toNatClampNeg
      have kx7 : 0 ≤ ((m.1 7 (v2).toNatClampNeg)).toInt ∧ ((m.1 7 (v2).toNatClampNeg)).toInt < (10 : Int) := by omega
      refine s_ix kx7 ?_
      refine s_ix kx7 ?_
      have kc8 : (v2 + (1 : Int32)).toInt = (v2).toInt + 1 := a_addl L1 (by omega) (by omega)
      have kc9 : 0 ≤ (m.1 27 ((m.1 6 (v2).toNatClampNeg)).toNatClampNeg).toInt ∧ (m.1 27 ((m.1 6 (v2).toNatClampNeg)).toNatClampNeg).toInt ≤ 16383 := hI.1 27 ((m.1 6 (v2).toNatClampNeg)).toNatClampNeg
      have kc10 := L1
      have kc11 := L31
      have kc12 : 0 ≤ (v2 &&& (31 : Int32)).toInt ∧ (v2 &&& (31 : Int32)).toInt ≤ ((31 : Int32)).toInt := a_andr (by omega)
      have kc13 : 0 ≤ (v2 &&& (31 : Int32)).toInt ∧ (v2 &&& (31 : Int32)).toInt ≤ (v2).toInt := a_andl (by omega)
      have kc14 : 1 ≤ ((1 : Int32) <<< (v2 &&& (31 : Int32))).toInt ∧ ((1 : Int32) <<< (v2 &&& (31 : Int32))).toInt ≤ 8192 := a_shl 13 (by decide) (by decide) (by omega) (by omega)
      have kc15 : 0 ≤ ((m.1 27 ((m.1 6 (v2).toNatClampNeg)).toNatClampNeg) ||| ((1 : Int32) <<< (v2 &&& (31 : Int32)))).toInt ∧ ((m.1 27 ((m.1 6 (v2).toNatClampNeg)).toNatClampNeg) ||| ((1 : Int32) <<< (v2 &&& (31 : Int32)))).toInt < 16384 := a_or 14 (by decide) (by decide) (by omega) (by omega) (by omega) (by omega)
      have ki16 : zI (sm_w1 m 27 ((m.1 6 (v2).toNatClampNeg)).toNatClampNeg ((m.1 27 ((m.1 6 (v2).toNatClampNeg)).toNatClampNeg) ||| ((1 : Int32) <<< (v2 &&& (31 : Int32))))) := zI.w hI rfl (show 0 ≤ (((m.1 27 ((m.1 6 (v2).toNatClampNeg)).toNatClampNeg) ||| ((1 : Int32) <<< (v2 &&& (31 : Int32))))).toInt ∧ (((m.1 27 ((m.1 6 (v2).toNatClampNeg)).toNatClampNeg) ||| ((1 : Int32) <<< (v2 &&& (31 : Int32))))).toInt ≤ 16383 by omega)
      have kc17 : 0 ≤ (m.1 28 ((m.1 7 (v2).toNatClampNeg)).toNatClampNeg).toInt ∧ (m.1 28 ((m.1 7 (v2).toNatClampNeg)).toNatClampNeg).toInt ≤ 16383 := hI.1 28 ((m.1 7 (v2).toNatClampNeg)).toNatClampNeg
      have kc18 : 0 ≤ ((m.1 28 ((m.1 7 (v2).toNatClampNeg)).toNatClampNeg) ||| ((1 : Int32) <<< (v2 &&& (31 : Int32)))).toInt ∧ ((m.1 28 ((m.1 7 (v2).toNatClampNeg)).toNatClampNeg) ||| ((1 : Int32) <<< (v2 &&& (31 : Int32)))).toInt < 16384 := a_or 14 (by decide) (by decide) (by omega) (by omega) (by omega) (by omega)
      have ki19 : zI (sm_w1 (sm_w1 m 27 ((m.1 6 (v2).toNatClampNeg)).toNatClampNeg ((m.1 27 ((m.1 6 (v2).toNatClampNeg)).toNatClampNeg) ||| ((1 : Int32) <<< (v2 &&& (31 : Int32))))) 28 ((m.1 7 (v2).toNatClampNeg)).toNatClampNeg ((m.1 28 ((m.1 7 (v2).toNatClampNeg)).toNatClampNeg) ||| ((1 : Int32) <<< (v2 &&& (31 : Int32))))) := zI.w ki16 rfl (show 0 ≤ (((m.1 28 ((m.1 7 (v2).toNatClampNeg)).toNatClampNeg) ||| ((1 : Int32) <<< (v2 &&& (31 : Int32))))).toInt ∧ (((m.1 28 ((m.1 7 (v2).toNatClampNeg)).toNatClampNeg) ||| ((1 : Int32) <<< (v2 &&& (31 : Int32))))).toInt ≤ 16383 by omega)
      have kf20 : Fr wX4_sortEnds m0 (sm_w1 m 27 ((m.1 6 (v2).toNatClampNeg)).toNatClampNeg ((m.1 27 ((m.1 6 (v2).toNatClampNeg)).toNatClampNeg) ||| ((1 : Int32) <<< (v2 &&& (31 : Int32))))) := Fr.w hF rfl
      have kf21 : Fr wX4_sortEnds m0 (sm_w1 (sm_w1 m 27 ((m.1 6 (v2).toNatClampNeg)).toNatClampNeg ((m.1 27 ((m.1 6 (v2).toNatClampNeg)).toNatClampNeg) ||| ((1 : Int32) <<< (v2 &&& (31 : Int32))))) 28 ((m.1 7 (v2).toNatClampNeg)).toNatClampNeg ((m.1 28 ((m.1 7 (v2).toNatClampNeg)).toNatClampNeg) ||| ((1 : Int32) <<< (v2 &&& (31 : Int32))))) := Fr.w kf20 rfl
      exact ih (v2 + (1 : Int32)) (sm_w1 (sm_w1 m 27 ((m.1 6 (v2).toNatClampNeg)).toNatClampNeg ((m.1 27 ((m.1 6 (v2).toNatClampNeg)).toNatClampNeg) ||| ((1 : Int32) <<< (v2 &&& (31 : Int32))))) 28 ((m.1 7 (v2).toNatClampNeg)).toNatClampNeg ((m.1 28 ((m.1 7 (v2).toNatClampNeg)).toNatClampNeg) ||| ((1 : Int32) <<< (v2 &&& (31 : Int32))))) (show 0 ≤ (v2 + (1 : Int32)).toInt ∧ (v2 + (1 : Int32)).toInt ≤ 14 ∧ 14 - (v2 + (1 : Int32)).toInt < (n : Int) by omega) ki19 kf21
theorem zX4_sortEnds_2 (m0 : sm_S) : ∀ (n : Nat) (v2 : Int32) (m : sm_S), (0 ≤ v2.toInt ∧ v2.toInt ≤ 10 ∧ 10 - v2.toInt < (n : Int)) → zI m → Fr wX4_sortEnds m0 m → Sf (fun r => (True) ∧ zI r ∧ Fr wX4_sortEnds m0 r) (fX4_sortEnds_2 n v2 m) := by
  intro n
  induction n with
  | zero =>
    intro v2 m hp hI hF
    exfalso
    omega
  | succ n ih =>
    intro v2 m hp hI hF
    have hnn : ((n + 1 : Nat) : Int) = (n : Int) + 1 := by omega
    have hfu := fuE
    unfold fX4_sortEnds_2
    have kc1 : 0 ≤ (m.1 3 0).toInt ∧ (m.1 3 0).toInt ≤ 10 := hI.1 3 0
    refine s_le (fun kh2 => ?_) (fun kh2 => ?_)
    · have kc3 := L0
      exact zX4_sortEnds_32 m0 sm_fu (0 : Int32) m (show 0 ≤ (0 : Int32).toInt ∧ (0 : Int32).toInt ≤ 14 ∧ 14 - (0 : Int32).toInt < (sm_fu : Int) by omega) hI hF
    · have kx4 : 0 ≤ (v2).toInt ∧ (v2).toInt < (10 : Int) := by omega
      refine s_ix kx4 ?_
      refine s_ix kx4 ?_
      have kc5 : (v2 + (1 : Int32)).toInt = (v2).toInt + 1 := a_addl L1 (by omega) (by omega)
      have kc6 := L0
      have ki7 : zI (sm_w1 m 27 (v2).toNatClampNeg (0 : Int32)) := zI.w hI rfl (show 0 ≤ ((0 : Int32)).toInt ∧ ((0 : Int32)).toInt ≤ 16383 by omega)
      have ki8 : zI (sm_w1 (sm_w1 m 27 (v2).toNatClampNeg (0 : Int32)) 28 (v2).toNatClampNeg (0 : Int32)) := zI.w ki7 rfl (show 0 ≤ ((0 : Int32)).toInt ∧ ((0 : Int32)).toInt ≤ 16383 by omega)
      have kf9 : Fr wX4_sortEnds m0 (sm_w1 m 27 (v2).toNatClampNeg (0 : Int32)) := Fr.w hF rfl
      have kf10 : Fr wX4_sortEnds m0 (sm_w1 (sm_w1 m 27 (v2).toNatClampNeg (0 : Int32)) 28 (v2).toNatClampNeg (0 : Int32)) := Fr.w kf9 rfl
      exact ih (v2 + (1 : Int32)) (sm_w1 (sm_w1 m 27 (v2).toNatClampNeg (0 : Int32)) 28 (v2).toNatClampNeg (0 : Int32)) (show 0 ≤ (v2 + (1 : Int32)).toInt ∧ (v2 + (1 : Int32)).toInt ≤ 10 ∧ 10 - (v2 + (1 : Int32)).toInt < (n : Int) by omega) ki8 kf10
theorem zX4_sortEnds (m : sm_S) (hI : zI m) : Sf (fun r => (True) ∧ zI r ∧ Fr wX4_sortEnds m r) (fX4_sortEnds m) := by
  have hfu := fuE
  unfold fX4_sortEnds
  have kc1 := L0
  exact zX4_sortEnds_2 m sm_fu (0 : Int32) m (show 0 ≤ (0 : Int32).toInt ∧ (0 : Int32).toInt ≤ 10 ∧ 10 - (0 : Int32).toInt < (sm_fu : Int) by omega) hI Fr.refl
theorem zX4_isBalanced_2 : ∀ (n : Nat) (v2 : Int32) (v3 : Int32) (m : sm_S), (0 ≤ v2.toInt ∧ v2.toInt ≤ 16383 ∧ 0 ≤ v3.toInt ∧ v3.toInt ≤ 10 ∧ 10 - v3.toInt < (n : Int)) → zI m → Sf (fun r => (0 ≤ r.toInt) ∧ (r.toInt ≤ 1)) (fX4_isBalanced_2 n v2 v3 m) := by
  intro n
  induction n with
  | zero =>
    intro v2 v3 m hp hI
    exfalso
    omega
  | succ n ih =>
    intro v2 v3 m hp hI
    have hnn : ((n + 1 : Nat) : Int) = (n : Int) + 1 := by omega
    have hfu := fuE
    unfold fX4_isBalanced_2
    have kc1 : 0 ≤ (m.1 3 0).toInt ∧ (m.1 3 0).toInt ≤ 10 := hI.1 3 0
    refine s_le (fun kh2 => ?_) (fun kh2 => ?_)
    · have kc3 := L1
      exact s_ret (show (0 ≤ (1 : Int32).toInt) ∧ ((1 : Int32).toInt ≤ 1) by omega)
    · have kx4 : 0 ≤ (v3).toInt ∧ (v3).toInt < (10 : Int) := by omega
      refine s_ix kx4 ?_
      refine s_ix kx4 ?_
      refine s_ix kx4 ?_
      refine s_ix kx4 ?_
      have kc5 : 0 ≤ (m.1 27 (v3).toNatClampNeg).toInt ∧ (m.1 27 (v3).toNatClampNeg).toInt ≤ 16383 := hI.1 27 (v3).toNatClampNeg
      have kc6 : 0 ≤ (m.1 28 (v3).toNatClampNeg).toInt ∧ (m.1 28 (v3).toNatClampNeg).toInt ≤ 16383 := hI.1 28 (v3).toNatClampNeg
      have kc7 : 0 ≤ ((m.1 27 (v3).toNatClampNeg) ||| (m.1 28 (v3).toNatClampNeg)).toInt ∧ ((m.1 27 (v3).toNatClampNeg) ||| (m.1 28 (v3).toNatClampNeg)).toInt < 16384 := a_or 14 (by decide) (by decide) (by omega) (by omega) (by omega) (by omega)
      refine s_bd (zJ6_bitCount_0f7a4 ((m.1 27 (v3).toNatClampNeg) ||| (m.1 28 (v3).toNatClampNeg)) m (show 0 ≤ ((m.1 27 (v3).toNatClampNeg) ||| (m.1 28 (v3).toNatClampNeg)).toInt ∧ ((m.1 27 (v3).toNatClampNeg) ||| (m.1 28 (v3).toNatClampNeg)).toInt ≤ 16383 by omega) hI) (fun r6 kr8 => ?_)
      replace kr8 : (0 ≤ r6.toInt) ∧ (r6.toInt ≤ 63) := kr8
      have kc9 := Ln1
      have kc10 : 0 ≤ ((m.1 27 (v3).toNatClampNeg) &&& (v2 ^^^ (-1 : Int32))).toInt ∧ ((m.1 27 (v3).toNatClampNeg) &&& (v2 ^^^ (-1 : Int32))).toInt ≤ ((m.1 27 (v3).toNatClampNeg)).toInt := a_andl (by omega)
      have kc11 : 0 ≤ ((m.1 28 (v3).toNatClampNeg) &&& v2).toInt ∧ ((m.1 28 (v3).toNatClampNeg) &&& v2).toInt ≤ (v2).toInt := a_andr (by omega)
      have kc12 : 0 ≤ ((m.1 28 (v3).toNatClampNeg) &&& v2).toInt ∧ ((m.1 28 (v3).toNatClampNeg) &&& v2).toInt ≤ ((m.1 28 (v3).toNatClampNeg)).toInt := a_andl (by omega)
      have kc13 : 0 ≤ (((m.1 27 (v3).toNatClampNeg) &&& (v2 ^^^ (-1 : Int32))) ||| ((m.1 28 (v3).toNatClampNeg) &&& v2)).toInt ∧ (((m.1 27 (v3).toNatClampNeg) &&& (v2 ^^^ (-1 : Int32))) ||| ((m.1 28 (v3).toNatClampNeg) &&& v2)).toInt < 16384 := a_or 14 (by decide) (by decide) (by omega) (by omega) (by omega) (by omega)
      refine s_bd (zJ6_bitCount_0f7a4 (((m.1 27 (v3).toNatClampNeg) &&& (v2 ^^^ (-1 : Int32))) ||| ((m.1 28 (v3).toNatClampNeg) &&& v2)) m (show 0 ≤ (((m.1 27 (v3).toNatClampNeg) &&& (v2 ^^^ (-1 : Int32))) ||| ((m.1 28 (v3).toNatClampNeg) &&& v2)).toInt ∧ (((m.1 27 (v3).toNatClampNeg) &&& (v2 ^^^ (-1 : Int32))) ||| ((m.1 28 (v3).toNatClampNeg) &&& v2)).toInt ≤ 16383 by omega) hI) (fun r8 kr14 => ?_)
      replace kr14 : (0 ≤ r8.toInt) ∧ (r8.toInt ≤ 63) := kr14
      have kc15 := L2
      have kc16 : ((2 : Int32) * r8).toInt = 2 * (r8).toInt := a_mul L2 rfl (by omega) (by omega)
      refine s_eq (fun kh17 => ?_) (fun kh17 => ?_)
      · have kc18 : (v3 + (1 : Int32)).toInt = (v3).toInt + 1 := a_addl L1 (by omega) (by omega)
        exact ih v2 (v3 + (1 : Int32)) m (show 0 ≤ v2.toInt ∧ v2.toInt ≤ 16383 ∧ 0 ≤ (v3 + (1 : Int32)).toInt ∧ (v3 + (1 : Int32)).toInt ≤ 10 ∧ 10 - (v3 + (1 : Int32)).toInt < (n : Int) by omega) hI
      · have kc19 := L0
        exact s_ret (show (0 ≤ (0 : Int32).toInt) ∧ ((0 : Int32).toInt ≤ 1) by omega)
theorem zX4_isBalanced (x1 : Int32) (m : sm_S) (hp : 0 ≤ x1.toInt ∧ x1.toInt ≤ 16383) (hI : zI m) : Sf (fun r => (0 ≤ r.toInt) ∧ (r.toInt ≤ 1)) (fX4_isBalanced x1 m) := by
  have hfu := fuE
  unfold fX4_isBalanced
  have kc1 := L0
  exact zX4_isBalanced_2 sm_fu x1 (0 : Int32) m (show 0 ≤ x1.toInt ∧ x1.toInt ≤ 16383 ∧ 0 ≤ (0 : Int32).toInt ∧ (0 : Int32).toInt ≤ 10 ∧ 10 - (0 : Int32).toInt < (sm_fu : Int) by omega) hI
theorem zX4_windOf_5 : ∀ (n : Nat) (v2 : Int32) (v3 : Int32) (v4 : Int32) (m : sm_S), (0 ≤ v2.toInt ∧ v2.toInt ≤ 16383 ∧ 0 ≤ v4.toInt ∧ v4.toInt ≤ 14 ∧ 14 - v4.toInt < (n : Int)) → zI m → Sf (fun r => True) (fX4_windOf_5 n v2 v3 v4 m) := by
  intro n
  induction n with
  | zero =>
    intro v2 v3 v4 m hp hI
    exfalso
    omega
  | succ n ih =>
    intro v2 v3 v4 m hp hI
    have hnn : ((n + 1 : Nat) : Int) = (n : Int) + 1 := by omega
    have hfu := fuE
    unfold fX4_windOf_5
    have kc1 : 0 ≤ (m.1 3 1).toInt ∧ (m.1 3 1).toInt ≤ 14 := hI.1 3 1
    refine s_le (fun kh2 => ?_) (fun kh2 => ?_)
    · exact s_ret trivial
    · have kc3 := L31
      have kc4 : 0 ≤ (v4 &&& (31 : Int32)).toInt ∧ (v4 &&& (31 : Int32)).toInt ≤ ((31 : Int32)).toInt := a_andr (by omega)
      have kc5 : 0 ≤ (v4 &&& (31 : Int32)).toInt ∧ (v4 &&& (31 : Int32)).toInt ≤ (v4).toInt := a_andl (by omega)
      have kc6 : 0 ≤ (v2 >>> (v4 &&& (31 : Int32))).toInt ∧ (v2 >>> (v4 &&& (31 : Int32))).toInt ≤ (v2).toInt := a_shr (by omega)
      have kc7 := L1
      have kc8 : 0 ≤ ((v2 >>> (v4 &&& (31 : Int32))) &&& (1 : Int32)).toInt ∧ ((v2 >>> (v4 &&& (31 : Int32))) &&& (1 : Int32)).toInt ≤ ((1 : Int32)).toInt := a_andr (by omega)
      have kc9 : 0 ≤ ((v2 >>> (v4 &&& (31 : Int32))) &&& (1 : Int32)).toInt ∧ ((v2 >>> (v4 &&& (31 : Int32))) &&& (1 : Int32)).toInt ≤ ((v2 >>> (v4 &&& (31 : Int32)))).toInt := a_andl (by omega)
      have kc10 := L0
      refine s_eq (fun kh11 => ?_) (fun kh11 => ?_)
      · have kc12 : (v4 + (1 : Int32)).toInt = (v4).toInt + 1 := a_addl L1 (by omega) (by omega)
        exact ih v2 v3 (v4 + (1 : Int32)) m (show 0 ≤ v2.toInt ∧ v2.toInt ≤ 16383 ∧ 0 ≤ (v4 + (1 : Int32)).toInt ∧ (v4 + (1 : Int32)).toInt ≤ 14 ∧ 14 - (v4 + (1 : Int32)).toInt < (n : Int) by omega) hI
      · have kx13 : 0 ≤ (v4).toInt ∧ (v4).toInt < (14 : Int) := by omega
        refine s_ix kx13 ?_
        have kc14 : 0 ≤ (m.1 12 (v4).toNatClampNeg).toInt ∧ (m.1 12 (v4).toNatClampNeg).toInt ≤ 9 := hI.1 12 (v4).toNatClampNeg
        have kc15 : (v4 + (1 : Int32)).toInt = (v4).toInt + 1 := a_addl L1 (by omega) (by omega)
        exact ih v2 (v3 + (m.1 12 (v4).toNatClampNeg)) (v4 + (1 : Int32)) m (show 0 ≤ v2.toInt ∧ v2.toInt ≤ 16383 ∧ 0 ≤ (v4 + (1 : Int32)).toInt ∧ (v4 + (1 : Int32)).toInt ≤ 14 ∧ 14 - (v4 + (1 : Int32)).toInt < (n : Int) by omega) hI
theorem zX4_windOf (x1 : Int32) (m : sm_S) (hp : 0 ≤ x1.toInt ∧ x1.toInt ≤ 16383) (hI : zI m) : Sf (fun r => True) (fX4_windOf x1 m) := by
  have hfu := fuE
  unfold fX4_windOf
  have kc1 := L0
  exact zX4_windOf_5 sm_fu x1 (0 : Int32) (0 : Int32) m (show 0 ≤ x1.toInt ∧ x1.toInt ≤ 16383 ∧ 0 ≤ (0 : Int32).toInt ∧ (0 : Int32).toInt ≤ 14 ∧ 14 - (0 : Int32).toInt < (sm_fu : Int) by omega) hI
theorem zX4_cheapestTurns_13 (m0 : sm_S) : ∀ (n : Nat) (v2 : Int32) (v3 : Int32) (v4 : Int32) (m : sm_S), (0 ≤ v2.toInt ∧ v2.toInt ≤ 16383 ∧ v3.toInt ≤ 65535 ∧ 0 ≤ v4.toInt ∧ v4.toInt ≤ 16384 ∧ 16384 - v4.toInt < (n : Int)) → zI m → Fr wX4_cheapestTurns m0 m → Sf (fun r => ((0 ≤ r.1.toInt) ∧ (r.1.toInt ≤ 16383)) ∧ zI r.2 ∧ Fr wX4_cheapestTurns m0 r.2) (fX4_cheapestTurns_13 n v2 v3 v4 m) := by
  intro n
  induction n with
  | zero =>
    intro v2 v3 v4 m hp hI hF
    have krgv3 := rg v3
    exfalso
    omega
  | succ n ih =>
    intro v2 v3 v4 m hp hI hF
    have hnn : ((n + 1 : Nat) : Int) = (n : Int) + 1 := by omega
    have hfu := fuE
    have krgv3 := rg v3
    unfold fX4_cheapestTurns_13
    refine s_bd (zX2_everyHedge m hI) (fun r4 kr1 => ?_)
    replace kr1 : (0 ≤ r4.toInt) ∧ (r4.toInt ≤ 16383) := kr1
    refine s_lt (fun kh2 => ?_) (fun kh2 => ?_)
    · exact s_ret ⟨(show (0 ≤ v2.toInt) ∧ (v2.toInt ≤ 16383) by omega), hI, hF⟩
    · refine s_bd (zX4_isBalanced v4 m (show 0 ≤ v4.toInt ∧ v4.toInt ≤ 16383 by omega) hI) (fun r6 kr3 => ?_)
      replace kr3 : (0 ≤ r6.toInt) ∧ (r6.toInt ≤ 1) := kr3
      have kc4 := L0
      refine s_eq (fun kh5 => ?_) (fun kh5 => ?_)
      · have kc6 : (v4 + (1 : Int32)).toInt = (v4).toInt + 1 := a_addl L1 (by omega) (by omega)
        exact ih v2 v3 (v4 + (1 : Int32)) m (show 0 ≤ v2.toInt ∧ v2.toInt ≤ 16383 ∧ v3.toInt ≤ 65535 ∧ 0 ≤ (v4 + (1 : Int32)).toInt ∧ (v4 + (1 : Int32)).toInt ≤ 16384 ∧ 16384 - (v4 + (1 : Int32)).toInt < (n : Int) by omega) hI hF
      · refine s_bd (zX4_windOf v4 m (show 0 ≤ v4.toInt ∧ v4.toInt ≤ 16383 by omega) hI) (fun r8 kr7 => ?_)
        refine s_le (fun kh8 => ?_) (fun kh8 => ?_)
        · have kc9 : (v4 + (1 : Int32)).toInt = (v4).toInt + 1 := a_addl L1 (by omega) (by omega)
          exact ih v2 v3 (v4 + (1 : Int32)) m (show 0 ≤ v2.toInt ∧ v2.toInt ≤ 16383 ∧ v3.toInt ≤ 65535 ∧ 0 ≤ (v4 + (1 : Int32)).toInt ∧ (v4 + (1 : Int32)).toInt ≤ 16384 ∧ 16384 - (v4 + (1 : Int32)).toInt < (n : Int) by omega) hI hF
        · have kc10 : (v4 + (1 : Int32)).toInt = (v4).toInt + 1 := a_addl L1 (by omega) (by omega)
          exact ih v4 r8 (v4 + (1 : Int32)) m (show 0 ≤ v4.toInt ∧ v4.toInt ≤ 16383 ∧ r8.toInt ≤ 65535 ∧ 0 ≤ (v4 + (1 : Int32)).toInt ∧ (v4 + (1 : Int32)).toInt ≤ 16384 ∧ 16384 - (v4 + (1 : Int32)).toInt < (n : Int) by omega) hI hF
theorem zX4_cheapestTurns (m : sm_S) (hI : zI m) : Sf (fun r => ((0 ≤ r.1.toInt) ∧ (r.1.toInt ≤ 16383)) ∧ zI r.2 ∧ Fr wX4_cheapestTurns m r.2) (fX4_cheapestTurns m) := by
  have hfu := fuE
  unfold fX4_cheapestTurns
  refine s_bd (zX4_sortEnds m hI) (fun m2 kr1 => ?_)
  obtain ⟨kp2, ki3, kf4⟩ := kr1
  have kc5 := L0
  have kc6 := L65535
  have kf7 : Fr wX4_cheapestTurns m m2 := Fr.trans Fr.refl kf4 rfl
  exact zX4_cheapestTurns_13 m sm_fu (0 : Int32) (65535 : Int32) (0 : Int32) m2 (show 0 ≤ (0 : Int32).toInt ∧ (0 : Int32).toInt ≤ 16383 ∧ (65535 : Int32).toInt ≤ 65535 ∧ 0 ≤ (0 : Int32).toInt ∧ (0 : Int32).toInt ≤ 16384 ∧ 16384 - (0 : Int32).toInt < (sm_fu : Int) by omega) ki3 kf7
theorem zX11_round_49 (m0 : sm_S) : ∀ (n : Nat) (v2 : Int32) (v3 : Int32) (v4 : Int32) (m : sm_S), (0 ≤ v2.toInt ∧ v2.toInt ≤ 16383 ∧ 0 ≤ v4.toInt ∧ v4.toInt ≤ 14 ∧ 14 - v4.toInt < (n : Int)) → zI m → Fr wX11_round m0 m → Sf (fun r => (True) ∧ zI r.2 ∧ Fr wX11_round m0 r.2) (fX11_round_49 n v2 v3 v4 m) := by
  intro n
  induction n with
  | zero =>
    intro v2 v3 v4 m hp hI hF
    exfalso
    omega
  | succ n ih =>
    intro v2 v3 v4 m hp hI hF
    have hnn : ((n + 1 : Nat) : Int) = (n : Int) + 1 := by omega
    have hfu := fuE
    unfold fX11_round_49
    have kc1 : 0 ≤ (m.1 3 1).toInt ∧ (m.1 3 1).toInt ≤ 14 := hI.1 3 1
    refine s_le (fun kh2 => ?_) (fun kh2 => ?_)
    · refine s_bd (zX5_tell v2 m hI) (fun m10 kr3 => ?_)
      obtain ⟨kp4, ki5, kf6⟩ := kr3
      refine s_bd (zX4_windOf v2 m10 (show 0 ≤ v2.toInt ∧ v2.toInt ≤ 16383 by omega) ki5) (fun r12 kr7 => ?_)
      have kf8 : Fr wX11_round m0 m10 := Fr.trans hF kf6 rfl
      exact s_ret ⟨trivial, ki5, kf8⟩
    · have kx9 : 0 ≤ (v4).toInt ∧ (v4).toInt < (14 : Int) := by omega
      refine s_ix kx9 ?_
      have kc10 : 0 ≤ (m.1 8 (v4).toNatClampNeg).toInt ∧ (m.1 8 (v4).toNatClampNeg).toInt ≤ 20 := hI.1 8 (v4).toNatClampNeg
      have kc11 : (v4 + (1 : Int32)).toInt = (v4).toInt + 1 := a_addl L1 (by omega) (by omega)
      exact ih v2 (v3 + (m.1 8 (v4).toNatClampNeg)) (v4 + (1 : Int32)) m (show 0 ≤ v2.toInt ∧ v2.toInt ≤ 16383 ∧ 0 ≤ (v4 + (1 : Int32)).toInt ∧ (v4 + (1 : Int32)).toInt ≤ 14 ∧ 14 - (v4 + (1 : Int32)).toInt < (n : Int) by omega) hI hF
theorem zX11_round (m : sm_S) (hI : zI m) : Sf (fun r => (True) ∧ zI r.2 ∧ Fr wX11_round m r.2) (fX11_round m) := by
  have hfu := fuE
  unfold fX11_round
  refine s_bd (zX2_everyHedge m hI) (fun r2 kr1 => ?_)
  replace kr1 : (0 ≤ r2.toInt) ∧ (r2.toInt ≤ 16383) := kr1
  refine s_bd (zX2_oddCorners r2 m (show 0 ≤ r2.toInt ∧ r2.toInt ≤ 16383 by omega) hI) (fun r4 kr2 => ?_)
  replace kr2 : (0 ≤ r4.toInt) ∧ (r4.toInt ≤ 1023) := kr2
  have kc3 := L0
  refine s_eq (fun kh4 => ?_) (fun kh4 => ?_)
  · refine s_bd (zX2_hangsTogether m hI) (fun r6 kr5 => ?_)
    replace kr5 : (0 ≤ r6.toInt) ∧ (r6.toInt ≤ 1) := kr5
    refine s_eq (fun kh6 => ?_) (fun kh6 => ?_)
    · have kc7 := Ln2
      exact s_ret ⟨trivial, hI, Fr.refl⟩
    · refine s_bd (zX4_cheapestTurns m hI) (fun r8 kr8 => ?_)
      obtain ⟨kp9, ki10, kf11⟩ := kr8
      replace kp9 : (0 ≤ r8.1.toInt) ∧ (r8.1.toInt ≤ 16383) := kp9
      have kf12 : Fr wX11_round m r8.2 := Fr.trans Fr.refl kf11 rfl
      exact zX11_round_49 m sm_fu r8.1 (0 : Int32) (0 : Int32) r8.2 (show 0 ≤ (r8.1).toInt ∧ (r8.1).toInt ≤ 16383 ∧ 0 ≤ (0 : Int32).toInt ∧ (0 : Int32).toInt ≤ 14 ∧ 14 - (0 : Int32).toInt < (sm_fu : Int) by omega) ki10 kf12
  · have kc13 := Ln2
    exact s_ret ⟨trivial, hI, Fr.refl⟩
theorem zX3_at (x1 : Int32) (m : sm_S) (hp : 0 ≤ x1.toInt ∧ x1.toInt ≤ 4095) (hI : zI m) : Sf (fun r => (0 ≤ r.toInt) ∧ (r.toInt ≤ 65535)) (fX3_at x1 m) := by
  have hfu := fuE
  unfold fX3_at
  have kc1 := L0
  refine s_lt (fun kh2 => ?_) (fun kh2 => ?_)
  · omega
  · have kc3 : 0 ≤ (m.1 29 0).toInt ∧ (m.1 29 0).toInt ≤ 3072 := hI.1 29 0
    refine s_lt (fun kh4 => ?_) (fun kh4 => ?_)
    · have kc5 := L2
      have kc6 := L31
      have kc7 : 0 ≤ ((2 : Int32) &&& (31 : Int32)).toInt ∧ ((2 : Int32) &&& (31 : Int32)).toInt ≤ ((31 : Int32)).toInt := a_andr (by omega)
      have kc8 : 0 ≤ ((2 : Int32) &&& (31 : Int32)).toInt ∧ ((2 : Int32) &&& (31 : Int32)).toInt ≤ ((2 : Int32)).toInt := a_andl (by omega)
      have kc9 : (x1 >>> ((2 : Int32) &&& (31 : Int32))).toInt = (x1).toInt / 4 := a_shrE 2 (by decide) (by decide) (by decide)
      have kx10 : 0 ≤ ((x1 >>> ((2 : Int32) &&& (31 : Int32)))).toInt ∧ ((x1 >>> ((2 : Int32) &&& (31 : Int32)))).toInt < (769 : Int) := by omega
      refine s_ix kx10 ?_
      have kc11 := L65535
      have kc12 : 0 ≤ ((((m.2 30 ((x1 >>> ((2 : Int32) &&& (31 : Int32)))).toNatClampNeg) >>> ((((x1 &&& (3 : Int32)) <<< ((4 : Int32) &&& (31 : Int32)))).toInt64 &&& (63 : Int64)))).toInt32 &&& (65535 : Int32)).toInt ∧ ((((m.2 30 ((x1 >>> ((2 : Int32) &&& (31 : Int32)))).toNatClampNeg) >>> ((((x1 &&& (3 : Int32)) <<< ((4 : Int32) &&& (31 : Int32)))).toInt64 &&& (63 : Int64)))).toInt32 &&& (65535 : Int32)).toInt ≤ ((65535 : Int32)).toInt := a_andr (by omega)
      exact s_ret (show (0 ≤ ((((m.2 30 ((x1 >>> ((2 : Int32) &&& (31 : Int32)))).toNatClampNeg) >>> ((((x1 &&& (3 : Int32)) <<< ((4 : Int32) &&& (31 : Int32)))).toInt64 &&& (63 : Int64)))).toInt32 &&& (65535 : Int32)).toInt) ∧ (((((m.2 30 ((x1 >>> ((2 : Int32) &&& (31 : Int32)))).toNatClampNeg) >>> ((((x1 &&& (3 : Int32)) <<< ((4 : Int32) &&& (31 : Int32)))).toInt64 &&& (63 : Int64)))).toInt32 &&& (65535 : Int32)).toInt ≤ 65535) by omega)
    · have kc13 := L65535
      exact s_ret (show (0 ≤ (65535 : Int32).toInt) ∧ ((65535 : Int32).toInt ≤ 65535) by omega)
theorem zX4_costWithPair (x1 : Int32) (x2 : Int32) (x3 : Int32) (x4 : Int32) (m : sm_S) (hp : 0 ≤ x1.toInt ∧ x1.toInt ≤ 9 ∧ 1 ≤ x2.toInt ∧ x2.toInt ≤ 9 ∧ 0 ≤ x3.toInt ∧ x3.toInt ≤ 1023 ∧ 0 ≤ x4.toInt ∧ x4.toInt ≤ 2) (hI : zI m) : Sf (fun r => (0 ≤ r.toInt) ∧ (r.toInt ≤ 65535)) (fX4_costWithPair x1 x2 x3 x4 m) := by
  have hfu := fuE
  unfold fX4_costWithPair
  have kc1 := L1024
  have kc2 : (x4 * (1024 : Int32)).toInt = (x4).toInt * 1024 := a_mul rfl L1024 (by omega) (by omega)
  have kc3 := L1
  have kc4 := L31
  have kc5 : 0 ≤ (x2 &&& (31 : Int32)).toInt ∧ (x2 &&& (31 : Int32)).toInt ≤ ((31 : Int32)).toInt := a_andr (by omega)
  have kc6 : 0 ≤ (x2 &&& (31 : Int32)).toInt ∧ (x2 &&& (31 : Int32)).toInt ≤ (x2).toInt := a_andl (by omega)
  have kc7 : 1 ≤ ((1 : Int32) <<< (x2 &&& (31 : Int32))).toInt ∧ ((1 : Int32) <<< (x2 &&& (31 : Int32))).toInt ≤ 512 := a_shl 9 (by decide) (by decide) (by omega) (by omega)
  have kc8 := Ln1
  have kc9 : 0 ≤ (x3 &&& (((1 : Int32) <<< (x2 &&& (31 : Int32))) ^^^ (-1 : Int32))).toInt ∧ (x3 &&& (((1 : Int32) <<< (x2 &&& (31 : Int32))) ^^^ (-1 : Int32))).toInt ≤ (x3).toInt := a_andl (by omega)
  have kc10 : ((x4 * (1024 : Int32)) + (x3 &&& (((1 : Int32) <<< (x2 &&& (31 : Int32))) ^^^ (-1 : Int32)))).toInt = ((x4 * (1024 : Int32))).toInt + ((x3 &&& (((1 : Int32) <<< (x2 &&& (31 : Int32))) ^^^ (-1 : Int32)))).toInt := a_add (by omega) (by omega)
  refine s_bd (zX3_at ((x4 * (1024 : Int32)) + (x3 &&& (((1 : Int32) <<< (x2 &&& (31 : Int32))) ^^^ (-1 : Int32)))) m (show 0 ≤ ((x4 * (1024 : Int32)) + (x3 &&& (((1 : Int32) <<< (x2 &&& (31 : Int32))) ^^^ (-1 : Int32)))).toInt ∧ ((x4 * (1024 : Int32)) + (x3 &&& (((1 : Int32) <<< (x2 &&& (31 : Int32))) ^^^ (-1 : Int32)))).toInt ≤ 4095 by omega) hI) (fun r2 kr11 => ?_)
  replace kr11 : (0 ≤ r2.toInt) ∧ (r2.toInt ≤ 65535) := kr11
  refine s_bd (zX2_grassBetween x1 x2 m (show 0 ≤ x1.toInt ∧ x1.toInt ≤ 9 ∧ 0 ≤ x2.toInt ∧ x2.toInt ≤ 9 by omega) hI) (fun r4 kr12 => ?_)
  replace kr12 : (0 ≤ r4.toInt) ∧ (r4.toInt ≤ 36) := kr12
  have kc13 : (r2 + r4).toInt = (r2).toInt + (r4).toInt := a_add (by omega) (by omega)
  have kc14 := L65535
  have kc15 : (((r2 + r4)).toInt < ((65535 : Int32)).toInt ∧ (if (r2 + r4) < (65535 : Int32) then (r2 + r4) else (65535 : Int32)).toInt = ((r2 + r4)).toInt) ∨ (((65535 : Int32)).toInt ≤ ((r2 + r4)).toInt ∧ (if (r2 + r4) < (65535 : Int32) then (r2 + r4) else (65535 : Int32)).toInt = ((65535 : Int32)).toInt) := a_ilt
  exact s_ret (show (0 ≤ (if (r2 + r4) < (65535 : Int32) then (r2 + r4) else (65535 : Int32)).toInt) ∧ ((if (r2 + r4) < (65535 : Int32) then (r2 + r4) else (65535 : Int32)).toInt ≤ 65535) by omega)
theorem zX4_partnerOf_14 : ∀ (n : Nat) (v2 : Int32) (v3 : Int32) (v4 : Int32) (v5 : Int32) (v6 : Int32) (m : sm_S), (0 ≤ v2.toInt ∧ v2.toInt ≤ 9 ∧ 0 ≤ v3.toInt ∧ v3.toInt ≤ 1023 ∧ 0 ≤ v4.toInt ∧ v4.toInt ≤ 2 ∧ 0 ≤ v5.toInt ∧ v5.toInt ≤ 1023 ∧ 1 ≤ v6.toInt ∧ v6.toInt ≤ 10 ∧ 10 - v6.toInt < (n : Int)) → zI m → Sf (fun r => ((-1 : Int) ≤ r.toInt) ∧ (r.toInt ≤ 9)) (fX4_partnerOf_14 n v2 v3 v4 v5 v6 m) := by
  intro n
  induction n with
  | zero =>
    intro v2 v3 v4 v5 v6 m hp hI
    exfalso
    omega
  | succ n ih =>
    intro v2 v3 v4 v5 v6 m hp hI
    have hnn : ((n + 1 : Nat) : Int) = (n : Int) + 1 := by omega
    have hfu := fuE
    unfold fX4_partnerOf_14
    have kc1 : 0 ≤ (m.1 3 0).toInt ∧ (m.1 3 0).toInt ≤ 10 := hI.1 3 0
    refine s_le (fun kh2 => ?_) (fun kh2 => ?_)
    · have kc3 := Ln1
      exact s_ret (show ((-1 : Int) ≤ (-1 : Int32).toInt) ∧ ((-1 : Int32).toInt ≤ 9) by omega)
    · have kc4 := L31
      have kc5 : 0 ≤ (v6 &&& (31 : Int32)).toInt ∧ (v6 &&& (31 : Int32)).toInt ≤ ((31 : Int32)).toInt := a_andr (by omega)
      have kc6 : 0 ≤ (v6 &&& (31 : Int32)).toInt ∧ (v6 &&& (31 : Int32)).toInt ≤ (v6).toInt := a_andl (by omega)
      have kc7 : 0 ≤ (v5 >>> (v6 &&& (31 : Int32))).toInt ∧ (v5 >>> (v6 &&& (31 : Int32))).toInt ≤ (v5).toInt := a_shr (by omega)
      have kc8 := L1
      have kc9 : 0 ≤ ((v5 >>> (v6 &&& (31 : Int32))) &&& (1 : Int32)).toInt ∧ ((v5 >>> (v6 &&& (31 : Int32))) &&& (1 : Int32)).toInt ≤ ((1 : Int32)).toInt := a_andr (by omega)
      have kc10 : 0 ≤ ((v5 >>> (v6 &&& (31 : Int32))) &&& (1 : Int32)).toInt ∧ ((v5 >>> (v6 &&& (31 : Int32))) &&& (1 : Int32)).toInt ≤ ((v5 >>> (v6 &&& (31 : Int32)))).toInt := a_andl (by omega)
      have kc11 := L0
      refine s_eq (fun kh12 => ?_) (fun kh12 => ?_)
      · have kc13 : (v6 + (1 : Int32)).toInt = (v6).toInt + 1 := a_addl L1 (by omega) (by omega)
        exact ih v2 v3 v4 v5 (v6 + (1 : Int32)) m (show 0 ≤ v2.toInt ∧ v2.toInt ≤ 9 ∧ 0 ≤ v3.toInt ∧ v3.toInt ≤ 1023 ∧ 0 ≤ v4.toInt ∧ v4.toInt ≤ 2 ∧ 0 ≤ v5.toInt ∧ v5.toInt ≤ 1023 ∧ 1 ≤ (v6 + (1 : Int32)).toInt ∧ (v6 + (1 : Int32)).toInt ≤ 10 ∧ 10 - (v6 + (1 : Int32)).toInt < (n : Int) by omega) hI
      · refine s_bd (zX4_costWithPair v2 v6 v5 v4 m (show 0 ≤ v2.toInt ∧ v2.toInt ≤ 9 ∧ 1 ≤ v6.toInt ∧ v6.toInt ≤ 9 ∧ 0 ≤ v5.toInt ∧ v5.toInt ≤ 1023 ∧ 0 ≤ v4.toInt ∧ v4.toInt ≤ 2 by omega) hI) (fun r2 kr14 => ?_)
        replace kr14 : (0 ≤ r2.toInt) ∧ (r2.toInt ≤ 65535) := kr14
        have kc15 := L1024
        have kc16 : (v4 * (1024 : Int32)).toInt = (v4).toInt * 1024 := a_mul rfl L1024 (by omega) (by omega)
        have kc17 : ((v4 * (1024 : Int32)) + v3).toInt = ((v4 * (1024 : Int32))).toInt + (v3).toInt := a_add (by omega) (by omega)
        refine s_bd (zX3_at ((v4 * (1024 : Int32)) + v3) m (show 0 ≤ ((v4 * (1024 : Int32)) + v3).toInt ∧ ((v4 * (1024 : Int32)) + v3).toInt ≤ 4095 by omega) hI) (fun r4 kr18 => ?_)
        replace kr18 : (0 ≤ r4.toInt) ∧ (r4.toInt ≤ 65535) := kr18
        refine s_eq (fun kh19 => ?_) (fun kh19 => ?_)
        · exact s_ret (show ((-1 : Int) ≤ v6.toInt) ∧ (v6.toInt ≤ 9) by omega)
        · have kc20 : (v6 + (1 : Int32)).toInt = (v6).toInt + 1 := a_addl L1 (by omega) (by omega)
          exact ih v2 v3 v4 v5 (v6 + (1 : Int32)) m (show 0 ≤ v2.toInt ∧ v2.toInt ≤ 9 ∧ 0 ≤ v3.toInt ∧ v3.toInt ≤ 1023 ∧ 0 ≤ v4.toInt ∧ v4.toInt ≤ 2 ∧ 0 ≤ v5.toInt ∧ v5.toInt ≤ 1023 ∧ 1 ≤ (v6 + (1 : Int32)).toInt ∧ (v6 + (1 : Int32)).toInt ≤ 10 ∧ 10 - (v6 + (1 : Int32)).toInt < (n : Int) by omega) hI
theorem zX4_partnerOf (x1 : Int32) (x2 : Int32) (x3 : Int32) (m : sm_S) (hp : 0 ≤ x1.toInt ∧ x1.toInt ≤ 9 ∧ 0 ≤ x2.toInt ∧ x2.toInt ≤ 1023 ∧ 0 ≤ x3.toInt ∧ x3.toInt ≤ 2) (hI : zI m) : Sf (fun r => ((-1 : Int) ≤ r.toInt) ∧ (r.toInt ≤ 9)) (fX4_partnerOf x1 x2 x3 m) := by
  have hfu := fuE
  unfold fX4_partnerOf
  have kc1 := L1
  have kc2 := L31
  have kc3 : 0 ≤ (x1 &&& (31 : Int32)).toInt ∧ (x1 &&& (31 : Int32)).toInt ≤ ((31 : Int32)).toInt := a_andr (by omega)
  have kc4 : 0 ≤ (x1 &&& (31 : Int32)).toInt ∧ (x1 &&& (31 : Int32)).toInt ≤ (x1).toInt := a_andl (by omega)
  have kc5 : 1 ≤ ((1 : Int32) <<< (x1 &&& (31 : Int32))).toInt ∧ ((1 : Int32) <<< (x1 &&& (31 : Int32))).toInt ≤ 512 := a_shl 9 (by decide) (by decide) (by omega) (by omega)
  have kc6 := Ln1
  have kc7 : 0 ≤ (x2 &&& (((1 : Int32) <<< (x1 &&& (31 : Int32))) ^^^ (-1 : Int32))).toInt ∧ (x2 &&& (((1 : Int32) <<< (x1 &&& (31 : Int32))) ^^^ (-1 : Int32))).toInt ≤ (x2).toInt := a_andl (by omega)
  have kc8 : (x1 + (1 : Int32)).toInt = (x1).toInt + 1 := a_addl L1 (by omega) (by omega)
  exact zX4_partnerOf_14 sm_fu x1 x2 x3 (x2 &&& (((1 : Int32) <<< (x1 &&& (31 : Int32))) ^^^ (-1 : Int32))) (x1 + (1 : Int32)) m (show 0 ≤ x1.toInt ∧ x1.toInt ≤ 9 ∧ 0 ≤ x2.toInt ∧ x2.toInt ≤ 1023 ∧ 0 ≤ x3.toInt ∧ x3.toInt ≤ 2 ∧ 0 ≤ (x2 &&& (((1 : Int32) <<< (x1 &&& (31 : Int32))) ^^^ (-1 : Int32))).toInt ∧ (x2 &&& (((1 : Int32) <<< (x1 &&& (31 : Int32))) ^^^ (-1 : Int32))).toInt ≤ 1023 ∧ 1 ≤ (x1 + (1 : Int32)).toInt ∧ (x1 + (1 : Int32)).toInt ≤ 10 ∧ 10 - (x1 + (1 : Int32)).toInt < (sm_fu : Int) by omega) hI
theorem zX4_tellPairs_14 (m0 : sm_S) : ∀ (n : Nat) (v5 : Int32) (v6 : Int32) (v7 : Int32) (m : sm_S), (0 ≤ v5.toInt ∧ v5.toInt ≤ 1023 ∧ 0 ≤ v6.toInt ∧ v6.toInt ≤ 2 ∧ 0 ≤ v7.toInt ∧ v7.toInt ≤ 10 ∧ 10 - v7.toInt < (n : Int)) → zI m → Fr wX4_tellPairs m0 m → Sf (fun r => (True) ∧ zI r ∧ Fr wX4_tellPairs m0 r) (fX4_tellPairs_14 n v5 v6 v7 m) := by
  intro n
  induction n with
  | zero =>
    intro v5 v6 v7 m hp hI hF
    exfalso
    omega
  | succ n ih =>
    intro v5 v6 v7 m hp hI hF
    have hnn : ((n + 1 : Nat) : Int) = (n : Int) + 1 := by omega
    have hfu := fuE
    unfold fX4_tellPairs_14
    have kc1 : 0 ≤ (m.1 3 0).toInt ∧ (m.1 3 0).toInt ≤ 10 := hI.1 3 0
    refine s_le (fun kh2 => ?_) (fun kh2 => ?_)
    · exact s_ret ⟨trivial, hI, hF⟩
    · have kc3 := L31
      have kc4 : 0 ≤ (v7 &&& (31 : Int32)).toInt ∧ (v7 &&& (31 : Int32)).toInt ≤ ((31 : Int32)).toInt := a_andr (by omega)
      have kc5 : 0 ≤ (v7 &&& (31 : Int32)).toInt ∧ (v7 &&& (31 : Int32)).toInt ≤ (v7).toInt := a_andl (by omega)
      have kc6 : 0 ≤ (v5 >>> (v7 &&& (31 : Int32))).toInt ∧ (v5 >>> (v7 &&& (31 : Int32))).toInt ≤ (v5).toInt := a_shr (by omega)
      have kc7 := L1
      have kc8 : 0 ≤ ((v5 >>> (v7 &&& (31 : Int32))) &&& (1 : Int32)).toInt ∧ ((v5 >>> (v7 &&& (31 : Int32))) &&& (1 : Int32)).toInt ≤ ((1 : Int32)).toInt := a_andr (by omega)
      have kc9 : 0 ≤ ((v5 >>> (v7 &&& (31 : Int32))) &&& (1 : Int32)).toInt ∧ ((v5 >>> (v7 &&& (31 : Int32))) &&& (1 : Int32)).toInt ≤ ((v5 >>> (v7 &&& (31 : Int32)))).toInt := a_andl (by omega)
      have kc10 := L0
      refine s_eq (fun kh11 => ?_) (fun kh11 => ?_)
      · have kc12 : (v7 + (1 : Int32)).toInt = (v7).toInt + 1 := a_addl L1 (by omega) (by omega)
        exact ih v5 v6 (v7 + (1 : Int32)) m (show 0 ≤ v5.toInt ∧ v5.toInt ≤ 1023 ∧ 0 ≤ v6.toInt ∧ v6.toInt ≤ 2 ∧ 0 ≤ (v7 + (1 : Int32)).toInt ∧ (v7 + (1 : Int32)).toInt ≤ 10 ∧ 10 - (v7 + (1 : Int32)).toInt < (n : Int) by omega) hI hF
      · refine s_bd (zX4_partnerOf v7 v5 v6 m (show 0 ≤ v7.toInt ∧ v7.toInt ≤ 9 ∧ 0 ≤ v5.toInt ∧ v5.toInt ≤ 1023 ∧ 0 ≤ v6.toInt ∧ v6.toInt ≤ 2 by omega) hI) (fun r4 kr13 => ?_)
        replace kr13 : ((-1 : Int) ≤ r4.toInt) ∧ (r4.toInt ≤ 9) := kr13
        refine s_le (fun kh14 => ?_) (fun kh14 => ?_)
        · refine s_bd (zX5_add v7 m hI) (fun m6 kr15 => ?_)
          obtain ⟨kp16, ki17, kf18⟩ := kr15
          refine s_bd (zX5_add r4 m6 ki17) (fun m8 kr19 => ?_)
          obtain ⟨kp20, ki21, kf22⟩ := kr19
          have kc23 : 1 ≤ ((1 : Int32) <<< (v7 &&& (31 : Int32))).toInt ∧ ((1 : Int32) <<< (v7 &&& (31 : Int32))).toInt ≤ 512 := a_shl 9 (by decide) (by decide) (by omega) (by omega)
          have kc24 := Ln1
          have kc25 : 0 ≤ (v5 &&& (((1 : Int32) <<< (v7 &&& (31 : Int32))) ^^^ (-1 : Int32))).toInt ∧ (v5 &&& (((1 : Int32) <<< (v7 &&& (31 : Int32))) ^^^ (-1 : Int32))).toInt ≤ (v5).toInt := a_andl (by omega)
          have kc26 : 0 ≤ (r4 &&& (31 : Int32)).toInt ∧ (r4 &&& (31 : Int32)).toInt ≤ ((31 : Int32)).toInt := a_andr (by omega)
          have kc27 : 0 ≤ (r4 &&& (31 : Int32)).toInt ∧ (r4 &&& (31 : Int32)).toInt ≤ (r4).toInt := a_andl (by omega)
          have kc28 : 1 ≤ ((1 : Int32) <<< (r4 &&& (31 : Int32))).toInt ∧ ((1 : Int32) <<< (r4 &&& (31 : Int32))).toInt ≤ 512 := a_shl 9 (by decide) (by decide) (by omega) (by omega)
          have kc29 : 0 ≤ ((v5 &&& (((1 : Int32) <<< (v7 &&& (31 : Int32))) ^^^ (-1 : Int32))) &&& (((1 : Int32) <<< (r4 &&& (31 : Int32))) ^^^ (-1 : Int32))).toInt ∧ ((v5 &&& (((1 : Int32) <<< (v7 &&& (31 : Int32))) ^^^ (-1 : Int32))) &&& (((1 : Int32) <<< (r4 &&& (31 : Int32))) ^^^ (-1 : Int32))).toInt ≤ ((v5 &&& (((1 : Int32) <<< (v7 &&& (31 : Int32))) ^^^ (-1 : Int32)))).toInt := a_andl (by omega)
          have kc30 : (v7 + (1 : Int32)).toInt = (v7).toInt + 1 := a_addl L1 (by omega) (by omega)
          have kf31 : Fr wX4_tellPairs m0 m6 := Fr.trans hF kf18 rfl
          have kf32 : Fr wX4_tellPairs m0 m8 := Fr.trans kf31 kf22 rfl
          exact ih ((v5 &&& (((1 : Int32) <<< (v7 &&& (31 : Int32))) ^^^ (-1 : Int32))) &&& (((1 : Int32) <<< (r4 &&& (31 : Int32))) ^^^ (-1 : Int32))) v6 (v7 + (1 : Int32)) m8 (show 0 ≤ ((v5 &&& (((1 : Int32) <<< (v7 &&& (31 : Int32))) ^^^ (-1 : Int32))) &&& (((1 : Int32) <<< (r4 &&& (31 : Int32))) ^^^ (-1 : Int32))).toInt ∧ ((v5 &&& (((1 : Int32) <<< (v7 &&& (31 : Int32))) ^^^ (-1 : Int32))) &&& (((1 : Int32) <<< (r4 &&& (31 : Int32))) ^^^ (-1 : Int32))).toInt ≤ 1023 ∧ 0 ≤ v6.toInt ∧ v6.toInt ≤ 2 ∧ 0 ≤ (v7 + (1 : Int32)).toInt ∧ (v7 + (1 : Int32)).toInt ≤ 10 ∧ 10 - (v7 + (1 : Int32)).toInt < (n : Int) by omega) ki21 kf32
        · have kc33 : 1 ≤ ((1 : Int32) <<< (v7 &&& (31 : Int32))).toInt ∧ ((1 : Int32) <<< (v7 &&& (31 : Int32))).toInt ≤ 512 := a_shl 9 (by decide) (by decide) (by omega) (by omega)
          have kc34 := Ln1
          have kc35 : 0 ≤ (v5 &&& (((1 : Int32) <<< (v7 &&& (31 : Int32))) ^^^ (-1 : Int32))).toInt ∧ (v5 &&& (((1 : Int32) <<< (v7 &&& (31 : Int32))) ^^^ (-1 : Int32))).toInt ≤ (v5).toInt := a_andl (by omega)
          have kc36 : (v6 - (1 : Int32)).toInt = (v6).toInt - 1 := a_subl L1 (by omega) (by omega)
          have kc37 : (((0 : Int32)).toInt < ((v6 - (1 : Int32))).toInt ∧ (if (0 : Int32) < (v6 - (1 : Int32)) then (v6 - (1 : Int32)) else (0 : Int32)).toInt = ((v6 - (1 : Int32))).toInt) ∨ (((v6 - (1 : Int32))).toInt ≤ ((0 : Int32)).toInt ∧ (if (0 : Int32) < (v6 - (1 : Int32)) then (v6 - (1 : Int32)) else (0 : Int32)).toInt = ((0 : Int32)).toInt) := a_ilt
          have kc38 : (v7 + (1 : Int32)).toInt = (v7).toInt + 1 := a_addl L1 (by omega) (by omega)
          exact ih (v5 &&& (((1 : Int32) <<< (v7 &&& (31 : Int32))) ^^^ (-1 : Int32))) (if (0 : Int32) < (v6 - (1 : Int32)) then (v6 - (1 : Int32)) else (0 : Int32)) (v7 + (1 : Int32)) m (show 0 ≤ (v5 &&& (((1 : Int32) <<< (v7 &&& (31 : Int32))) ^^^ (-1 : Int32))).toInt ∧ (v5 &&& (((1 : Int32) <<< (v7 &&& (31 : Int32))) ^^^ (-1 : Int32))).toInt ≤ 1023 ∧ 0 ≤ (if (0 : Int32) < (v6 - (1 : Int32)) then (v6 - (1 : Int32)) else (0 : Int32)).toInt ∧ (if (0 : Int32) < (v6 - (1 : Int32)) then (v6 - (1 : Int32)) else (0 : Int32)).toInt ≤ 2 ∧ 0 ≤ (v7 + (1 : Int32)).toInt ∧ (v7 + (1 : Int32)).toInt ≤ 10 ∧ 10 - (v7 + (1 : Int32)).toInt < (n : Int) by omega) hI hF
theorem zX4_tellPairs (x1 : Int32) (x2 : Int32) (m : sm_S) (hp : 0 ≤ x1.toInt ∧ x1.toInt ≤ 1023 ∧ 0 ≤ x2.toInt ∧ x2.toInt ≤ 2) (hI : zI m) : Sf (fun r => (True) ∧ zI r ∧ Fr wX4_tellPairs m r) (fX4_tellPairs x1 x2 m) := by
  have hfu := fuE
  unfold fX4_tellPairs
  refine s_bd (zX5_clear m hI) (fun m2 kr1 => ?_)
  obtain ⟨kp2, ki3, kf4⟩ := kr1
  have kc5 := L0
  have kf6 : Fr wX4_tellPairs m m2 := Fr.trans Fr.refl kf4 rfl
  exact zX4_tellPairs_14 m sm_fu x1 x2 (0 : Int32) m2 (show 0 ≤ x1.toInt ∧ x1.toInt ≤ 1023 ∧ 0 ≤ x2.toInt ∧ x2.toInt ≤ 2 ∧ 0 ≤ (0 : Int32).toInt ∧ (0 : Int32).toInt ≤ 10 ∧ 10 - (0 : Int32).toInt < (sm_fu : Int) by omega) ki3 kf6
theorem zX3_put (x1 : Int32) (x2 : Int32) (m : sm_S) (hp : 0 ≤ x1.toInt ∧ x1.toInt ≤ 4095 ∧ 0 ≤ x2.toInt ∧ x2.toInt ≤ 65535) (hI : zI m) : Sf (fun r => (True) ∧ zI r ∧ Fr wX3_put m r) (fX3_put x1 x2 m) := by
  have hfu := fuE
  unfold fX3_put
  have kc1 := L0
  refine s_lt (fun kh2 => ?_) (fun kh2 => ?_)
  · omega
  · have kc3 : 0 ≤ (m.1 29 0).toInt ∧ (m.1 29 0).toInt ≤ 3072 := hI.1 29 0
    refine s_le (fun kh4 => ?_) (fun kh4 => ?_)
    · exact s_ret ⟨trivial, hI, Fr.refl⟩
    · have kc5 := L2
      have kc6 := L31
      have kc7 : 0 ≤ ((2 : Int32) &&& (31 : Int32)).toInt ∧ ((2 : Int32) &&& (31 : Int32)).toInt ≤ ((31 : Int32)).toInt := a_andr (by omega)
      have kc8 : 0 ≤ ((2 : Int32) &&& (31 : Int32)).toInt ∧ ((2 : Int32) &&& (31 : Int32)).toInt ≤ ((2 : Int32)).toInt := a_andl (by omega)
      have kc9 : (x1 >>> ((2 : Int32) &&& (31 : Int32))).toInt = (x1).toInt / 4 := a_shrE 2 (by decide) (by decide) (by decide)
      have kx10 : 0 ≤ ((x1 >>> ((2 : Int32) &&& (31 : Int32)))).toInt ∧ ((x1 >>> ((2 : Int32) &&& (31 : Int32)))).toInt < (769 : Int) := by omega
      refine s_ix kx10 ?_
      refine s_ix kx10 ?_
      have ki11 : zI (sm_w2 m 30 ((x1 >>> ((2 : Int32) &&& (31 : Int32)))).toNatClampNeg (((m.2 30 ((x1 >>> ((2 : Int32) &&& (31 : Int32)))).toNatClampNeg) &&& (((65535 : Int64) <<< ((((x1 &&& (3 : Int32)) <<< ((4 : Int32) &&& (31 : Int32)))).toInt64 &&& (63 : Int64))) ^^^ (-1 : Int64))) ||| (((if (65535 : Int32) < x2 then (65535 : Int32) else x2)).toInt64 <<< ((((x1 &&& (3 : Int32)) <<< ((4 : Int32) &&& (31 : Int32)))).toInt64 &&& (63 : Int64))))) := hI
      have kf12 : Fr wX3_put m (sm_w2 m 30 ((x1 >>> ((2 : Int32) &&& (31 : Int32)))).toNatClampNeg (((m.2 30 ((x1 >>> ((2 : Int32) &&& (31 : Int32)))).toNatClampNeg) &&& (((65535 : Int64) <<< ((((x1 &&& (3 : Int32)) <<< ((4 : Int32) &&& (31 : Int32)))).toInt64 &&& (63 : Int64))) ^^^ (-1 : Int64))) ||| (((if (65535 : Int32) < x2 then (65535 : Int32) else x2)).toInt64 <<< ((((x1 &&& (3 : Int32)) <<< ((4 : Int32) &&& (31 : Int32)))).toInt64 &&& (63 : Int64))))) := Fr.refl
      exact s_ret ⟨trivial, ki11, kf12⟩
theorem zX4_lowestOf_2 : ∀ (n : Nat) (v0 : Int32) (v1 : Int32) (m : sm_S), (1 ≤ v0.toInt ∧ v0.toInt ≤ 1023 ∧ 0 ≤ v1.toInt ∧ v1.toInt ≤ 10 ∧ 10 - v1.toInt < (n : Int)) → zI m → Sf (fun r => (0 ≤ r.toInt) ∧ (r.toInt ≤ 9)) (fX4_lowestOf_2 n v0 v1 m) := by
  intro n
  induction n with
  | zero =>
    intro v0 v1 m hp hI
    exfalso
    omega
  | succ n ih =>
    intro v0 v1 m hp hI
    have hnn : ((n + 1 : Nat) : Int) = (n : Int) + 1 := by omega
    have hfu := fuE
    unfold fX4_lowestOf_2
    have kc1 := L10
    refine s_le (fun kh2 => ?_) (fun kh2 => ?_)
    · have kc3 := L0
      exact s_ret (show (0 ≤ (0 : Int32).toInt) ∧ ((0 : Int32).toInt ≤ 9) by omega)
    · have kc4 := L31
      have kc5 : 0 ≤ (v1 &&& (31 : Int32)).toInt ∧ (v1 &&& (31 : Int32)).toInt ≤ ((31 : Int32)).toInt := a_andr (by omega)
      have kc6 : 0 ≤ (v1 &&& (31 : Int32)).toInt ∧ (v1 &&& (31 : Int32)).toInt ≤ (v1).toInt := a_andl (by omega)
      have kc7 : 0 ≤ (v0 >>> (v1 &&& (31 : Int32))).toInt ∧ (v0 >>> (v1 &&& (31 : Int32))).toInt ≤ (v0).toInt := a_shr (by omega)
      have kc8 := L1
      have kc9 : 0 ≤ ((v0 >>> (v1 &&& (31 : Int32))) &&& (1 : Int32)).toInt ∧ ((v0 >>> (v1 &&& (31 : Int32))) &&& (1 : Int32)).toInt ≤ ((1 : Int32)).toInt := a_andr (by omega)
      have kc10 : 0 ≤ ((v0 >>> (v1 &&& (31 : Int32))) &&& (1 : Int32)).toInt ∧ ((v0 >>> (v1 &&& (31 : Int32))) &&& (1 : Int32)).toInt ≤ ((v0 >>> (v1 &&& (31 : Int32)))).toInt := a_andl (by omega)
      have kc11 := L0
      refine s_eq (fun kh12 => ?_) (fun kh12 => ?_)
      · have kc13 : (v1 + (1 : Int32)).toInt = (v1).toInt + 1 := a_addl L1 (by omega) (by omega)
        exact ih v0 (v1 + (1 : Int32)) m (show 1 ≤ v0.toInt ∧ v0.toInt ≤ 1023 ∧ 0 ≤ (v1 + (1 : Int32)).toInt ∧ (v1 + (1 : Int32)).toInt ≤ 10 ∧ 10 - (v1 + (1 : Int32)).toInt < (n : Int) by omega) hI
      · exact s_ret (show (0 ≤ v1.toInt) ∧ (v1.toInt ≤ 9) by omega)
theorem zX4_lowestOf (x1 : Int32) (m : sm_S) (hp : 1 ≤ x1.toInt ∧ x1.toInt ≤ 1023) (hI : zI m) : Sf (fun r => (0 ≤ r.toInt) ∧ (r.toInt ≤ 9)) (fX4_lowestOf x1 m) := by
  have hfu := fuE
  unfold fX4_lowestOf
  have kc1 := L0
  exact zX4_lowestOf_2 sm_fu x1 (0 : Int32) m (show 1 ≤ x1.toInt ∧ x1.toInt ≤ 1023 ∧ 0 ≤ (0 : Int32).toInt ∧ (0 : Int32).toInt ≤ 10 ∧ 10 - (0 : Int32).toInt < (sm_fu : Int) by omega) hI
theorem zX4_costOf_65 : ∀ (n : Nat) (v3 : Int32) (v4 : Int32) (v5 : Int32) (v6 : Int32) (v7 : Int32) (m : sm_S), (0 ≤ v3.toInt ∧ v3.toInt ≤ 2 ∧ 0 ≤ v4.toInt ∧ v4.toInt ≤ 9 ∧ 0 ≤ v5.toInt ∧ v5.toInt ≤ 1023 ∧ 0 ≤ v6.toInt ∧ v6.toInt ≤ 65535 ∧ 1 ≤ v7.toInt ∧ v7.toInt ≤ 10 ∧ 10 - v7.toInt < (n : Int)) → zI m → Sf (fun r => (0 ≤ r.toInt) ∧ (r.toInt ≤ 65535)) (fX4_costOf_65 n v3 v4 v5 v6 v7 m) := by
  intro n
  induction n with
  | zero =>
    intro v3 v4 v5 v6 v7 m hp hI
    exfalso
    omega
  | succ n ih =>
    intro v3 v4 v5 v6 v7 m hp hI
    have hnn : ((n + 1 : Nat) : Int) = (n : Int) + 1 := by omega
    have hfu := fuE
    unfold fX4_costOf_65
    have kc1 : 0 ≤ (m.1 3 0).toInt ∧ (m.1 3 0).toInt ≤ 10 := hI.1 3 0
    refine s_le (fun kh2 => ?_) (fun kh2 => ?_)
    · exact s_ret (show (0 ≤ v6.toInt) ∧ (v6.toInt ≤ 65535) by omega)
    · have kc3 := L31
      have kc4 : 0 ≤ (v7 &&& (31 : Int32)).toInt ∧ (v7 &&& (31 : Int32)).toInt ≤ ((31 : Int32)).toInt := a_andr (by omega)
      have kc5 : 0 ≤ (v7 &&& (31 : Int32)).toInt ∧ (v7 &&& (31 : Int32)).toInt ≤ (v7).toInt := a_andl (by omega)
      have kc6 : 0 ≤ (v5 >>> (v7 &&& (31 : Int32))).toInt ∧ (v5 >>> (v7 &&& (31 : Int32))).toInt ≤ (v5).toInt := a_shr (by omega)
      have kc7 := L1
      have kc8 : 0 ≤ ((v5 >>> (v7 &&& (31 : Int32))) &&& (1 : Int32)).toInt ∧ ((v5 >>> (v7 &&& (31 : Int32))) &&& (1 : Int32)).toInt ≤ ((1 : Int32)).toInt := a_andr (by omega)
      have kc9 : 0 ≤ ((v5 >>> (v7 &&& (31 : Int32))) &&& (1 : Int32)).toInt ∧ ((v5 >>> (v7 &&& (31 : Int32))) &&& (1 : Int32)).toInt ≤ ((v5 >>> (v7 &&& (31 : Int32)))).toInt := a_andl (by omega)
      have kc10 := L0
      refine s_eq (fun kh11 => ?_) (fun kh11 => ?_)
      · have kc12 : (v7 + (1 : Int32)).toInt = (v7).toInt + 1 := a_addl L1 (by omega) (by omega)
        exact ih v3 v4 v5 v6 (v7 + (1 : Int32)) m (show 0 ≤ v3.toInt ∧ v3.toInt ≤ 2 ∧ 0 ≤ v4.toInt ∧ v4.toInt ≤ 9 ∧ 0 ≤ v5.toInt ∧ v5.toInt ≤ 1023 ∧ 0 ≤ v6.toInt ∧ v6.toInt ≤ 65535 ∧ 1 ≤ (v7 + (1 : Int32)).toInt ∧ (v7 + (1 : Int32)).toInt ≤ 10 ∧ 10 - (v7 + (1 : Int32)).toInt < (n : Int) by omega) hI
      · refine s_bd (zX4_costWithPair v4 v7 v5 v3 m (show 0 ≤ v4.toInt ∧ v4.toInt ≤ 9 ∧ 1 ≤ v7.toInt ∧ v7.toInt ≤ 9 ∧ 0 ≤ v5.toInt ∧ v5.toInt ≤ 1023 ∧ 0 ≤ v3.toInt ∧ v3.toInt ≤ 2 by omega) hI) (fun r6 kr13 => ?_)
        replace kr13 : (0 ≤ r6.toInt) ∧ (r6.toInt ≤ 65535) := kr13
        have kc14 : ((r6).toInt < (v6).toInt ∧ (if r6 < v6 then r6 else v6).toInt = (r6).toInt) ∨ ((v6).toInt ≤ (r6).toInt ∧ (if r6 < v6 then r6 else v6).toInt = (v6).toInt) := a_ilt
        have kc15 : (v7 + (1 : Int32)).toInt = (v7).toInt + 1 := a_addl L1 (by omega) (by omega)
        exact ih v3 v4 v5 (if r6 < v6 then r6 else v6) (v7 + (1 : Int32)) m (show 0 ≤ v3.toInt ∧ v3.toInt ≤ 2 ∧ 0 ≤ v4.toInt ∧ v4.toInt ≤ 9 ∧ 0 ≤ v5.toInt ∧ v5.toInt ≤ 1023 ∧ 0 ≤ (if r6 < v6 then r6 else v6).toInt ∧ (if r6 < v6 then r6 else v6).toInt ≤ 65535 ∧ 1 ≤ (v7 + (1 : Int32)).toInt ∧ (v7 + (1 : Int32)).toInt ≤ 10 ∧ 10 - (v7 + (1 : Int32)).toInt < (n : Int) by omega) hI
