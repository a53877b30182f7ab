theorem zX4_costOf (x1 : Int32) (x2 : Int32) (m : sm_S) (hp : 0 ≤ x1.toInt ∧ x1.toInt ≤ 1023 ∧ 0 ≤ x2.toInt ∧ x2.toInt ≤ 2) (hI : zI m) : Sf (fun r => (0 ≤ r.toInt) ∧ (r.toInt ≤ 65535)) (fX4_costOf x1 x2 m) := by
  have hfu := fuE
  unfold fX4_costOf
  have kc1 := L0
  refine s_eq (fun kh2 => ?_) (fun kh2 => ?_)
  · refine s_eq (fun kh3 => ?_) (fun kh3 => ?_)
    · exact s_ret (show (0 ≤ (0 : Int32).toInt) ∧ ((0 : Int32).toInt ≤ 65535) by omega)
    · have kc4 := L65535
      exact s_ret (show (0 ≤ (65535 : Int32).toInt) ∧ ((65535 : Int32).toInt ≤ 65535) by omega)
  · refine s_bd (zX4_lowestOf x1 m (show 1 ≤ x1.toInt ∧ x1.toInt ≤ 1023 by omega) hI) (fun r2 kr5 => ?_)
    replace kr5 : (0 ≤ r2.toInt) ∧ (r2.toInt ≤ 9) := kr5
    refine s_eq (fun kh6 => ?_) (fun kh6 => ?_)
    · have kc7 := L1
      have kc8 := L31
      have kc9 : 0 ≤ (r2 &&& (31 : Int32)).toInt ∧ (r2 &&& (31 : Int32)).toInt ≤ ((31 : Int32)).toInt := a_andr (by omega)
      have kc10 : 0 ≤ (r2 &&& (31 : Int32)).toInt ∧ (r2 &&& (31 : Int32)).toInt ≤ (r2).toInt := a_andl (by omega)
      have kc11 : 1 ≤ ((1 : Int32) <<< (r2 &&& (31 : Int32))).toInt ∧ ((1 : Int32) <<< (r2 &&& (31 : Int32))).toInt ≤ 512 := a_shl 9 (by decide) (by decide) (by omega) (by omega)
      have kc12 := Ln1
      have kc13 : 0 ≤ (x1 &&& (((1 : Int32) <<< (r2 &&& (31 : Int32))) ^^^ (-1 : Int32))).toInt ∧ (x1 &&& (((1 : Int32) <<< (r2 &&& (31 : Int32))) ^^^ (-1 : Int32))).toInt ≤ (x1).toInt := a_andl (by omega)
      have kc14 := L65535
      have kc15 : (r2 + (1 : Int32)).toInt = (r2).toInt + 1 := a_addl L1 (by omega) (by omega)
      exact zX4_costOf_65 sm_fu x2 r2 (x1 &&& (((1 : Int32) <<< (r2 &&& (31 : Int32))) ^^^ (-1 : Int32))) (65535 : Int32) (r2 + (1 : Int32)) m (show 0 ≤ x2.toInt ∧ x2.toInt ≤ 2 ∧ 0 ≤ r2.toInt ∧ r2.toInt ≤ 9 ∧ 0 ≤ (x1 &&& (((1 : Int32) <<< (r2 &&& (31 : Int32))) ^^^ (-1 : Int32))).toInt ∧ (x1 &&& (((1 : Int32) <<< (r2 &&& (31 : Int32))) ^^^ (-1 : Int32))).toInt ≤ 1023 ∧ 0 ≤ (65535 : Int32).toInt ∧ (65535 : Int32).toInt ≤ 65535 ∧ 1 ≤ (r2 + (1 : Int32)).toInt ∧ (r2 + (1 : Int32)).toInt ≤ 10 ∧ 10 - (r2 + (1 : Int32)).toInt < (sm_fu : Int) by omega) hI
    · have kc16 : (x2 - (1 : Int32)).toInt = (x2).toInt - 1 := a_subl L1 (by omega) (by omega)
      have kc17 := L1024
      have kc18 : ((x2 - (1 : Int32)) * (1024 : Int32)).toInt = ((x2 - (1 : Int32))).toInt * 1024 := a_mul rfl L1024 (by omega) (by omega)
      have kc19 := L1
      have kc20 := L31
      have kc21 : 0 ≤ (r2 &&& (31 : Int32)).toInt ∧ (r2 &&& (31 : Int32)).toInt ≤ ((31 : Int32)).toInt := a_andr (by omega)
      have kc22 : 0 ≤ (r2 &&& (31 : Int32)).toInt ∧ (r2 &&& (31 : Int32)).toInt ≤ (r2).toInt := a_andl (by omega)
      have kc23 : 1 ≤ ((1 : Int32) <<< (r2 &&& (31 : Int32))).toInt ∧ ((1 : Int32) <<< (r2 &&& (31 : Int32))).toInt ≤ 512 := a_shl 9 (by decide) (by decide) (by omega) (by omega)
      have kc24 := Ln1
      have kc25 : 0 ≤ (x1 &&& (((1 : Int32) <<< (r2 &&& (31 : Int32))) ^^^ (-1 : Int32))).toInt ∧ (x1 &&& (((1 : Int32) <<< (r2 &&& (31 : Int32))) ^^^ (-1 : Int32))).toInt ≤ (x1).toInt := a_andl (by omega)
      have kc26 : (((x2 - (1 : Int32)) * (1024 : Int32)) + (x1 &&& (((1 : Int32) <<< (r2 &&& (31 : Int32))) ^^^ (-1 : Int32)))).toInt = (((x2 - (1 : Int32)) * (1024 : Int32))).toInt + ((x1 &&& (((1 : Int32) <<< (r2 &&& (31 : Int32))) ^^^ (-1 : Int32)))).toInt := a_add (by omega) (by omega)
      refine s_bd (zX3_at (((x2 - (1 : Int32)) * (1024 : Int32)) + (x1 &&& (((1 : Int32) <<< (r2 &&& (31 : Int32))) ^^^ (-1 : Int32)))) m (show 0 ≤ (((x2 - (1 : Int32)) * (1024 : Int32)) + (x1 &&& (((1 : Int32) <<< (r2 &&& (31 : Int32))) ^^^ (-1 : Int32)))).toInt ∧ (((x2 - (1 : Int32)) * (1024 : Int32)) + (x1 &&& (((1 : Int32) <<< (r2 &&& (31 : Int32))) ^^^ (-1 : Int32)))).toInt ≤ 4095 by omega) hI) (fun r4 kr27 => ?_)
      replace kr27 : (0 ≤ r4.toInt) ∧ (r4.toInt ≤ 65535) := kr27
      have kc28 : (r2 + (1 : Int32)).toInt = (r2).toInt + 1 := a_addl L1 (by omega) (by omega)
      exact zX4_costOf_65 sm_fu x2 r2 (x1 &&& (((1 : Int32) <<< (r2 &&& (31 : Int32))) ^^^ (-1 : Int32))) r4 (r2 + (1 : Int32)) m (show 0 ≤ x2.toInt ∧ x2.toInt ≤ 2 ∧ 0 ≤ r2.toInt ∧ r2.toInt ≤ 9 ∧ 0 ≤ (x1 &&& (((1 : Int32) <<< (r2 &&& (31 : Int32))) ^^^ (-1 : Int32))).toInt ∧ (x1 &&& (((1 : Int32) <<< (r2 &&& (31 : Int32))) ^^^ (-1 : Int32))).toInt ≤ 1023 ∧ 0 ≤ r4.toInt ∧ r4.toInt ≤ 65535 ∧ 1 ≤ (r2 + (1 : Int32)).toInt ∧ (r2 + (1 : Int32)).toInt ≤ 10 ∧ 10 - (r2 + (1 : Int32)).toInt < (sm_fu : Int) by omega) hI
theorem zX4_leastGrass_22 (m0 : sm_S) (k13 : Int32 → Int32 → Int32 → sm_S → Option (Int32 × sm_S)) (Nk13 : Nat) (hk13 : ∀ (v2 : Int32) (v4 : Int32) (v5 : Int32) (m : sm_S), (0 ≤ v2.toInt ∧ v2.toInt ≤ 2 ∧ 0 ≤ v4.toInt ∧ v4.toInt ≤ 1023 ∧ 0 ≤ v5.toInt ∧ v5.toInt ≤ 3 ∧ 3 - v5.toInt < (Nk13 : Int)) → zI m → Fr wX4_leastGrass m0 m → Sf (fun r => ((0 ≤ r.1.toInt) ∧ (r.1.toInt ≤ 65535)) ∧ zI r.2 ∧ Fr wX4_leastGrass m0 r.2) (k13 v2 v4 v5 m)) : ∀ (n : Nat) (v2 : Int32) (v4 : Int32) (v5 : Int32) (v6 : Int32) (m : sm_S), (0 ≤ v2.toInt ∧ v2.toInt ≤ 2 ∧ 0 ≤ v4.toInt ∧ v4.toInt ≤ 1023 ∧ 0 ≤ v5.toInt ∧ v5.toInt ≤ 2 ∧ 0 ≤ v6.toInt ∧ v6.toInt ≤ 1024 ∧ 1024 - v6.toInt < (n : Int) ∧ 3 - v5.toInt ≤ (Nk13 : Int)) → zI m → Fr wX4_leastGrass m0 m → Sf (fun r => ((0 ≤ r.1.toInt) ∧ (r.1.toInt ≤ 65535)) ∧ zI r.2 ∧ Fr wX4_leastGrass m0 r.2) (fX4_leastGrass_22 k13 n v2 v4 v5 v6 m) := by
  intro n
  induction n with
  | zero =>
    intro v2 v4 v5 v6 m hp hI hF
    exfalso
    omega
  | succ n ih =>
    intro v2 v4 v5 v6 m hp hI hF
    have hnn : ((n + 1 : Nat) : Int) = (n : Int) + 1 := by omega
    have hfu := fuE
    unfold fX4_leastGrass_22
    have kc1 := L1
    have kc2 : 0 ≤ (m.1 3 0).toInt ∧ (m.1 3 0).toInt ≤ 10 := hI.1 3 0
    have kc3 := L31
    have kc4 : 0 ≤ ((m.1 3 0) &&& (31 : Int32)).toInt ∧ ((m.1 3 0) &&& (31 : Int32)).toInt ≤ ((31 : Int32)).toInt := a_andr (by omega)
    have kc5 : 0 ≤ ((m.1 3 0) &&& (31 : Int32)).toInt ∧ ((m.1 3 0) &&& (31 : Int32)).toInt ≤ ((m.1 3 0)).toInt := a_andl (by omega)
    have kc6 : 1 ≤ ((1 : Int32) <<< ((m.1 3 0) &&& (31 : Int32))).toInt ∧ ((1 : Int32) <<< ((m.1 3 0) &&& (31 : Int32))).toInt ≤ 1024 := a_shl 10 (by decide) (by decide) (by omega) (by omega)
    refine s_le (fun kh7 => ?_) (fun kh7 => ?_)
    · have kc8 : (v5 + (1 : Int32)).toInt = (v5).toInt + 1 := a_addl L1 (by omega) (by omega)
      exact hk13 v2 v4 (v5 + (1 : Int32)) m (show 0 ≤ v2.toInt ∧ v2.toInt ≤ 2 ∧ 0 ≤ v4.toInt ∧ v4.toInt ≤ 1023 ∧ 0 ≤ (v5 + (1 : Int32)).toInt ∧ (v5 + (1 : Int32)).toInt ≤ 3 ∧ 3 - (v5 + (1 : Int32)).toInt < (Nk13 : Int) by omega) hI hF
    · have kc9 := Ln1
      have kc10 : 0 ≤ (v6 &&& (v4 ^^^ (-1 : Int32))).toInt ∧ (v6 &&& (v4 ^^^ (-1 : Int32))).toInt ≤ (v6).toInt := a_andl (by omega)
      have kc11 := L0
      refine s_eq (fun kh12 => ?_) (fun kh12 => ?_)
      · refine s_bd (zX4_costOf v6 v5 m (show 0 ≤ v6.toInt ∧ v6.toInt ≤ 1023 ∧ 0 ≤ v5.toInt ∧ v5.toInt ≤ 2 by omega) hI) (fun r12 kr13 => ?_)
        replace kr13 : (0 ≤ r12.toInt) ∧ (r12.toInt ≤ 65535) := kr13
        have kc14 := L1024
        have kc15 : (v5 * (1024 : Int32)).toInt = (v5).toInt * 1024 := a_mul rfl L1024 (by omega) (by omega)
        have kc16 : ((v5 * (1024 : Int32)) + v6).toInt = ((v5 * (1024 : Int32))).toInt + (v6).toInt := a_add (by omega) (by omega)
        refine s_bd (zX3_put ((v5 * (1024 : Int32)) + v6) r12 m (show 0 ≤ ((v5 * (1024 : Int32)) + v6).toInt ∧ ((v5 * (1024 : Int32)) + v6).toInt ≤ 4095 ∧ 0 ≤ r12.toInt ∧ r12.toInt ≤ 65535 by omega) hI) (fun m14 kr17 => ?_)
        obtain ⟨kp18, ki19, kf20⟩ := kr17
        have kc21 : (v6 + (1 : Int32)).toInt = (v6).toInt + 1 := a_addl L1 (by omega) (by omega)
        have kf22 : Fr wX4_leastGrass m0 m14 := Fr.trans hF kf20 rfl
        exact ih v2 v4 v5 (v6 + (1 : Int32)) m14 (show 0 ≤ v2.toInt ∧ v2.toInt ≤ 2 ∧ 0 ≤ v4.toInt ∧ v4.toInt ≤ 1023 ∧ 0 ≤ v5.toInt ∧ v5.toInt ≤ 2 ∧ 0 ≤ (v6 + (1 : Int32)).toInt ∧ (v6 + (1 : Int32)).toInt ≤ 1024 ∧ 1024 - (v6 + (1 : Int32)).toInt < (n : Int) ∧ 3 - v5.toInt ≤ (Nk13 : Int) by omega) ki19 kf22
      · have kc23 := L1024
        have kc24 : (v5 * (1024 : Int32)).toInt = (v5).toInt * 1024 := a_mul rfl L1024 (by omega) (by omega)
        have kc25 : ((v5 * (1024 : Int32)) + v6).toInt = ((v5 * (1024 : Int32))).toInt + (v6).toInt := a_add (by omega) (by omega)
        have kc26 := L65535
        refine s_bd (zX3_put ((v5 * (1024 : Int32)) + v6) (65535 : Int32) m (show 0 ≤ ((v5 * (1024 : Int32)) + v6).toInt ∧ ((v5 * (1024 : Int32)) + v6).toInt ≤ 4095 ∧ 0 ≤ (65535 : Int32).toInt ∧ (65535 : Int32).toInt ≤ 65535 by omega) hI) (fun m10 kr27 => ?_)
        obtain ⟨kp28, ki29, kf30⟩ := kr27
        have kc31 : (v6 + (1 : Int32)).toInt = (v6).toInt + 1 := a_addl L1 (by omega) (by omega)
        have kf32 : Fr wX4_leastGrass m0 m10 := Fr.trans hF kf30 rfl
        exact ih v2 v4 v5 (v6 + (1 : Int32)) m10 (show 0 ≤ v2.toInt ∧ v2.toInt ≤ 2 ∧ 0 ≤ v4.toInt ∧ v4.toInt ≤ 1023 ∧ 0 ≤ v5.toInt ∧ v5.toInt ≤ 2 ∧ 0 ≤ (v6 + (1 : Int32)).toInt ∧ (v6 + (1 : Int32)).toInt ≤ 1024 ∧ 1024 - (v6 + (1 : Int32)).toInt < (n : Int) ∧ 3 - v5.toInt ≤ (Nk13 : Int) by omega) ki29 kf32
theorem zX4_leastGrass_13 (m0 : sm_S) : ∀ (n : Nat) (v2 : Int32) (v4 : Int32) (v5 : Int32) (m : sm_S), (0 ≤ v2.toInt ∧ v2.toInt ≤ 2 ∧ 0 ≤ v4.toInt ∧ v4.toInt ≤ 1023 ∧ 0 ≤ v5.toInt ∧ v5.toInt ≤ 3 ∧ 3 - v5.toInt < (n : Int)) → zI m → Fr wX4_leastGrass m0 m → Sf (fun r => ((0 ≤ r.1.toInt) ∧ (r.1.toInt ≤ 65535)) ∧ zI r.2 ∧ Fr wX4_leastGrass m0 r.2) (fX4_leastGrass_13 n v2 v4 v5 m) := by
  intro n
  induction n with
  | zero =>
    intro v2 v4 v5 m hp hI hF
    exfalso
    omega
  | succ n ih =>
    intro v2 v4 v5 m hp hI hF
    have hnn : ((n + 1 : Nat) : Int) = (n : Int) + 1 := by omega
    have hfu := fuE
    unfold fX4_leastGrass_13
    refine s_lt (fun kh1 => ?_) (fun kh1 => ?_)
    · refine s_bd (zX4_tellPairs v4 v2 m (show 0 ≤ v4.toInt ∧ v4.toInt ≤ 1023 ∧ 0 ≤ v2.toInt ∧ v2.toInt ≤ 2 by omega) hI) (fun m6 kr2 => ?_)
      obtain ⟨kp3, ki4, kf5⟩ := kr2
      have kc6 := L1024
      have kc7 : (v2 * (1024 : Int32)).toInt = (v2).toInt * 1024 := a_mul rfl L1024 (by omega) (by omega)
      have kc8 : ((v2 * (1024 : Int32)) + v4).toInt = ((v2 * (1024 : Int32))).toInt + (v4).toInt := a_add (by omega) (by omega)
      refine s_bd (zX3_at ((v2 * (1024 : Int32)) + v4) m6 (show 0 ≤ ((v2 * (1024 : Int32)) + v4).toInt ∧ ((v2 * (1024 : Int32)) + v4).toInt ≤ 4095 by omega) ki4) (fun r8 kr9 => ?_)
      replace kr9 : (0 ≤ r8.toInt) ∧ (r8.toInt ≤ 65535) := kr9
      have kf10 : Fr wX4_leastGrass m0 m6 := Fr.trans hF kf5 rfl
      exact s_ret ⟨(show (0 ≤ r8.toInt) ∧ (r8.toInt ≤ 65535) by omega), ki4, kf10⟩
    · have kc11 := L0
      exact zX4_leastGrass_22 m0 (fX4_leastGrass_13 n) n ih sm_fu v2 v4 v5 (0 : Int32) m (show 0 ≤ v2.toInt ∧ v2.toInt ≤ 2 ∧ 0 ≤ v4.toInt ∧ v4.toInt ≤ 1023 ∧ 0 ≤ v5.toInt ∧ v5.toInt ≤ 2 ∧ 0 ≤ (0 : Int32).toInt ∧ (0 : Int32).toInt ≤ 1024 ∧ 1024 - (0 : Int32).toInt < (sm_fu : Int) ∧ 3 - v5.toInt ≤ (n : Int) by omega) hI hF
theorem zX4_leastGrass (x1 : Int32) (m : sm_S) (hp : 0 ≤ x1.toInt ∧ x1.toInt ≤ 2) (hI : zI m) : Sf (fun r => ((0 ≤ r.1.toInt) ∧ (r.1.toInt ≤ 65535)) ∧ zI r.2 ∧ Fr wX4_leastGrass m r.2) (fX4_leastGrass x1 m) := by
  have hfu := fuE
  unfold fX4_leastGrass
  refine s_bd (zX2_everyHedge m hI) (fun r2 kr1 => ?_)
  replace kr1 : (0 ≤ r2.toInt) ∧ (r2.toInt ≤ 16383) := kr1
  refine s_bd (zX2_oddCorners r2 m (show 0 ≤ r2.toInt ∧ r2.toInt ≤ 16383 by omega) hI) (fun r4 kr2 => ?_)
  replace kr2 : (0 ≤ r4.toInt) ∧ (r4.toInt ≤ 1023) := kr2
  have kc3 := L0
  exact zX4_leastGrass_13 m sm_fu x1 r4 (0 : Int32) m (show 0 ≤ x1.toInt ∧ x1.toInt ≤ 2 ∧ 0 ≤ r4.toInt ∧ r4.toInt ≤ 1023 ∧ 0 ≤ (0 : Int32).toInt ∧ (0 : Int32).toInt ≤ 3 ∧ 3 - (0 : Int32).toInt < (sm_fu : Int) by omega) hI Fr.refl
theorem zX11_closed (m : sm_S) (hI : zI m) : Sf (fun r => (((-2 : Int) ≤ r.1.toInt) ∧ (r.1.toInt ≤ 65535)) ∧ zI r.2 ∧ Fr wX11_closed m r.2) (fX11_closed m) := by
  have hfu := fuE
  unfold fX11_closed
  refine s_bd (zX2_hangsTogether m hI) (fun r2 kr1 => ?_)
  replace kr1 : (0 ≤ r2.toInt) ∧ (r2.toInt ≤ 1) := kr1
  have kc2 := L0
  refine s_eq (fun kh3 => ?_) (fun kh3 => ?_)
  · have kc4 := Ln2
    exact s_ret ⟨(show ((-2 : Int) ≤ (-2 : Int32).toInt) ∧ ((-2 : Int32).toInt ≤ 65535) by omega), hI, Fr.refl⟩
  · refine s_bd (zX4_leastGrass (0 : Int32) m (show 0 ≤ (0 : Int32).toInt ∧ (0 : Int32).toInt ≤ 2 by omega) hI) (fun r4 kr5 => ?_)
    obtain ⟨kp6, ki7, kf8⟩ := kr5
    replace kp6 : (0 ≤ r4.1.toInt) ∧ (r4.1.toInt ≤ 65535) := kp6
    have kf9 : Fr wX11_closed m r4.2 := Fr.trans Fr.refl kf8 rfl
    exact s_ret ⟨(show ((-2 : Int) ≤ r4.1.toInt) ∧ (r4.1.toInt ≤ 65535) by omega), ki7, kf9⟩
theorem zX11_open (m : sm_S) (hI : zI m) : Sf (fun r => (((-2 : Int) ≤ r.1.toInt) ∧ (r.1.toInt ≤ 65535)) ∧ zI r.2 ∧ Fr wX11_open m r.2) (fX11_open m) := by
  have hfu := fuE
  unfold fX11_open
  refine s_bd (zX2_hangsTogether m hI) (fun r2 kr1 => ?_)
  replace kr1 : (0 ≤ r2.toInt) ∧ (r2.toInt ≤ 1) := kr1
  have kc2 := L0
  refine s_eq (fun kh3 => ?_) (fun kh3 => ?_)
  · have kc4 := Ln2
    exact s_ret ⟨(show ((-2 : Int) ≤ (-2 : Int32).toInt) ∧ ((-2 : Int32).toInt ≤ 65535) by omega), hI, Fr.refl⟩
  · refine s_bd (zX2_everyHedge m hI) (fun r4 kr5 => ?_)
    replace kr5 : (0 ≤ r4.toInt) ∧ (r4.toInt ≤ 16383) := kr5
    refine s_bd (zX2_oddCorners r4 m (show 0 ≤ r4.toInt ∧ r4.toInt ≤ 16383 by omega) hI) (fun r6 kr6 => ?_)
    replace kr6 : (0 ≤ r6.toInt) ∧ (r6.toInt ≤ 1023) := kr6
    refine s_eq (fun kh7 => ?_) (fun kh7 => ?_)
    · refine s_bd (zX4_leastGrass (0 : Int32) m (show 0 ≤ (0 : Int32).toInt ∧ (0 : Int32).toInt ≤ 2 by omega) hI) (fun r10 kr8 => ?_)
      obtain ⟨kp9, ki10, kf11⟩ := kr8
      replace kp9 : (0 ≤ r10.1.toInt) ∧ (r10.1.toInt ≤ 65535) := kp9
      have kf12 : Fr wX11_open m r10.2 := Fr.trans Fr.refl kf11 rfl
      exact s_ret ⟨(show ((-2 : Int) ≤ r10.1.toInt) ∧ (r10.1.toInt ≤ 65535) by omega), ki10, kf12⟩
    · have kc13 := L2
      refine s_bd (zX4_leastGrass (2 : Int32) m (show 0 ≤ (2 : Int32).toInt ∧ (2 : Int32).toInt ≤ 2 by omega) hI) (fun r8 kr14 => ?_)
      obtain ⟨kp15, ki16, kf17⟩ := kr14
      replace kp15 : (0 ≤ r8.1.toInt) ∧ (r8.1.toInt ≤ 65535) := kp15
      have kf18 : Fr wX11_open m r8.2 := Fr.trans Fr.refl kf17 rfl
      exact s_ret ⟨(show ((-2 : Int) ≤ r8.1.toInt) ∧ (r8.1.toInt ≤ 65535) by omega), ki16, kf18⟩
theorem zX3_fillWithForever_2 (m0 : sm_S) : ∀ (n : Nat) (v1 : Int32) (v2 : Int32) (m : sm_S), (1 ≤ v1.toInt ∧ v1.toInt ≤ 16384 ∧ 0 ≤ v2.toInt ∧ v2.toInt ≤ 9999 ∧ 9999 - v2.toInt < (n : Int)) → zI m → Fr wX3_fillWithForever m0 m → Sf (fun r => (True) ∧ zI r ∧ Fr wX3_fillWithForever m0 r) (fX3_fillWithForever_2 n v1 v2 m) := by
  intro n
  induction n with
  | zero =>
    intro v1 v2 m hp hI hF
    exfalso
    omega
  | succ n ih =>
    intro v1 v2 m hp hI hF
    have hnn : ((n + 1 : Nat) : Int) = (n : Int) + 1 := by omega
    have hfu := fuE
    unfold fX3_fillWithForever_2
    have kc1 := L4
    have kc2 : (v1 / (4 : Int32)).toInt = (v1).toInt / 4 := (a_div (by omega) (by omega)).trans (congrArg (fun z => (v1).toInt / z) L4)
    refine s_lt (fun kh3 => ?_) (fun kh3 => ?_)
    · exact s_ret ⟨trivial, hI, hF⟩
    · have kc4 : (Int32.ofNat 4097).toInt = 4097 := by decide
      refine s_le (fun kh5 => ?_) (fun kh5 => ?_)
      · omega
      · have kx6 : 0 ≤ (v2).toInt ∧ (v2).toInt < (4097 : Int) := by omega
        refine s_ix kx6 ?_
        have kc7 : (v2 + (1 : Int32)).toInt = (v2).toInt + 1 := a_addl L1 (by omega) (by omega)
        have ki8 : zI (sm_w2 m 33 (v2).toNatClampNeg (-1 : Int64)) := hI
        have kf9 : Fr wX3_fillWithForever m0 (sm_w2 m 33 (v2).toNatClampNeg (-1 : Int64)) := hF
        exact ih v1 (v2 + (1 : Int32)) (sm_w2 m 33 (v2).toNatClampNeg (-1 : Int64)) (show 1 ≤ v1.toInt ∧ v1.toInt ≤ 16384 ∧ 0 ≤ (v2 + (1 : Int32)).toInt ∧ (v2 + (1 : Int32)).toInt ≤ 9999 ∧ 9999 - (v2 + (1 : Int32)).toInt < (n : Int) by omega) ki8 kf9
theorem zX3_fillWithForever (x1 : Int32) (m : sm_S) (hp : 1 ≤ x1.toInt ∧ x1.toInt ≤ 16384) (hI : zI m) : Sf (fun r => (True) ∧ zI r ∧ Fr wX3_fillWithForever m r) (fX3_fillWithForever x1 m) := by
  have hfu := fuE
  unfold fX3_fillWithForever
  have kc1 := L0
  exact zX3_fillWithForever_2 m sm_fu x1 (0 : Int32) m (show 1 ≤ x1.toInt ∧ x1.toInt ≤ 16384 ∧ 0 ≤ (0 : Int32).toInt ∧ (0 : Int32).toInt ≤ 9999 ∧ 9999 - (0 : Int32).toInt < (sm_fu : Int) by omega) hI Fr.refl
theorem zX3_put_i1 (x1 : Int32) (x2 : Int32) (m : sm_S) (hp : 0 ≤ x1.toInt ∧ x1.toInt ≤ 16383 ∧ x2.toInt ≤ 65534) (hI : zI m) : Sf (fun r => (True) ∧ zI r ∧ Fr wX3_put_i1 m r) (fX3_put_i1 x1 x2 m) := by
  have hfu := fuE
  have krgx2 := rg x2
  unfold fX3_put_i1
  have kc1 := L0
  refine s_lt (fun kh2 => ?_) (fun kh2 => ?_)
  · omega
  · have kc3 : 0 ≤ (m.1 32 0).toInt ∧ (m.1 32 0).toInt ≤ 16384 := hI.1 32 0
    refine s_le (fun kh4 => ?_) (fun kh4 => ?_)
    · exact s_ret ⟨trivial, hI, Fr.refl⟩
    · have kc5 := L2
      have kc6 := L31
      have kc7 : 0 ≤ ((2 : Int32) &&& (31 : Int32)).toInt ∧ ((2 : Int32) &&& (31 : Int32)).toInt ≤ ((31 : Int32)).toInt := a_andr (by omega)
      have kc8 : 0 ≤ ((2 : Int32) &&& (31 : Int32)).toInt ∧ ((2 : Int32) &&& (31 : Int32)).toInt ≤ ((2 : Int32)).toInt := a_andl (by omega)
      have kc9 : (x1 >>> ((2 : Int32) &&& (31 : Int32))).toInt = (x1).toInt / 4 := a_shrE 2 (by decide) (by decide) (by decide)
      have kx10 : 0 ≤ ((x1 >>> ((2 : Int32) &&& (31 : Int32)))).toInt ∧ ((x1 >>> ((2 : Int32) &&& (31 : Int32)))).toInt < (4097 : Int) := by omega
      refine s_ix kx10 ?_
      refine s_ix kx10 ?_
      have ki11 : zI (sm_w2 m 33 ((x1 >>> ((2 : Int32) &&& (31 : Int32)))).toNatClampNeg (((m.2 33 ((x1 >>> ((2 : Int32) &&& (31 : Int32)))).toNatClampNeg) &&& (((65535 : Int64) <<< ((((x1 &&& (3 : Int32)) <<< ((4 : Int32) &&& (31 : Int32)))).toInt64 &&& (63 : Int64))) ^^^ (-1 : Int64))) ||| (((if (65535 : Int32) < x2 then (65535 : Int32) else x2)).toInt64 <<< ((((x1 &&& (3 : Int32)) <<< ((4 : Int32) &&& (31 : Int32)))).toInt64 &&& (63 : Int64))))) := hI
      have kf12 : Fr wX3_put_i1 m (sm_w2 m 33 ((x1 >>> ((2 : Int32) &&& (31 : Int32)))).toNatClampNeg (((m.2 33 ((x1 >>> ((2 : Int32) &&& (31 : Int32)))).toNatClampNeg) &&& (((65535 : Int64) <<< ((((x1 &&& (3 : Int32)) <<< ((4 : Int32) &&& (31 : Int32)))).toInt64 &&& (63 : Int64))) ^^^ (-1 : Int64))) ||| (((if (65535 : Int32) < x2 then (65535 : Int32) else x2)).toInt64 <<< ((((x1 &&& (3 : Int32)) <<< ((4 : Int32) &&& (31 : Int32)))).toInt64 &&& (63 : Int64))))) := Fr.refl
      exact s_ret ⟨trivial, ki11, kf12⟩
theorem zX3_at_i1 (x1 : Int32) (m : sm_S) (hp : 0 ≤ x1.toInt ∧ x1.toInt ≤ 16383) (hI : zI m) : Sf (fun r => (0 ≤ r.toInt) ∧ (r.toInt ≤ 65535)) (fX3_at_i1 x1 m) := by
  have hfu := fuE
  unfold fX3_at_i1
  have kc1 := L0
  refine s_lt (fun kh2 => ?_) (fun kh2 => ?_)
  · omega
  · have kc3 : 0 ≤ (m.1 32 0).toInt ∧ (m.1 32 0).toInt ≤ 16384 := hI.1 32 0
    refine s_lt (fun kh4 => ?_) (fun kh4 => ?_)
    · have kc5 := L2
      have kc6 := L31
      have kc7 : 0 ≤ ((2 : Int32) &&& (31 : Int32)).toInt ∧ ((2 : Int32) &&& (31 : Int32)).toInt ≤ ((31 : Int32)).toInt := a_andr (by omega)
      have kc8 : 0 ≤ ((2 : Int32) &&& (31 : Int32)).toInt ∧ ((2 : Int32) &&& (31 : Int32)).toInt ≤ ((2 : Int32)).toInt := a_andl (by omega)
      have kc9 : (x1 >>> ((2 : Int32) &&& (31 : Int32))).toInt = (x1).toInt / 4 := a_shrE 2 (by decide) (by decide) (by decide)
      have kx10 : 0 ≤ ((x1 >>> ((2 : Int32) &&& (31 : Int32)))).toInt ∧ ((x1 >>> ((2 : Int32) &&& (31 : Int32)))).toInt < (4097 : Int) := by omega
      refine s_ix kx10 ?_
      have kc11 := L65535
      have kc12 : 0 ≤ ((((m.2 33 ((x1 >>> ((2 : Int32) &&& (31 : Int32)))).toNatClampNeg) >>> ((((x1 &&& (3 : Int32)) <<< ((4 : Int32) &&& (31 : Int32)))).toInt64 &&& (63 : Int64)))).toInt32 &&& (65535 : Int32)).toInt ∧ ((((m.2 33 ((x1 >>> ((2 : Int32) &&& (31 : Int32)))).toNatClampNeg) >>> ((((x1 &&& (3 : Int32)) <<< ((4 : Int32) &&& (31 : Int32)))).toInt64 &&& (63 : Int64)))).toInt32 &&& (65535 : Int32)).toInt ≤ ((65535 : Int32)).toInt := a_andr (by omega)
      exact s_ret (show (0 ≤ ((((m.2 33 ((x1 >>> ((2 : Int32) &&& (31 : Int32)))).toNatClampNeg) >>> ((((x1 &&& (3 : Int32)) <<< ((4 : Int32) &&& (31 : Int32)))).toInt64 &&& (63 : Int64)))).toInt32 &&& (65535 : Int32)).toInt) ∧ (((((m.2 33 ((x1 >>> ((2 : Int32) &&& (31 : Int32)))).toNatClampNeg) >>> ((((x1 &&& (3 : Int32)) <<< ((4 : Int32) &&& (31 : Int32)))).toInt64 &&& (63 : Int64)))).toInt32 &&& (65535 : Int32)).toInt ≤ 65535) by omega)
    · have kc13 := L65535
      exact s_ret (show (0 ≤ (65535 : Int32).toInt) ∧ ((65535 : Int32).toInt ≤ 65535) by omega)
theorem zX10_extend_14 (m0 : sm_S) : ∀ (n : Nat) (v2 : Int32) (v4 : Int32) (v5 : Int32) (v6 : Int32) (v7 : Int32) (m : sm_S), (0 ≤ v2.toInt ∧ v2.toInt ≤ 16383 ∧ 0 ≤ v4.toInt ∧ v4.toInt ≤ 9999 ∧ 0 ≤ v5.toInt ∧ v5.toInt ≤ 15 ∧ 0 ≤ v6.toInt ∧ v6.toInt ≤ 4095 ∧ 0 ≤ v7.toInt ∧ v7.toInt ≤ 14 ∧ 14 - v7.toInt < (n : Int)) → zI m → Fr wX10_extend m0 m → Sf (fun r => (True) ∧ zI r ∧ Fr wX10_extend m0 r) (fX10_extend_14 n v2 v4 v5 v6 v7 m) := by
  intro n
  induction n with
  | zero =>
    intro v2 v4 v5 v6 v7 m hp hI hF
    exfalso
    omega
  | succ n ih =>
    intro v2 v4 v5 v6 v7 m hp hI hF
    have hnn : ((n + 1 : Nat) : Int) = (n : Int) + 1 := by omega
    have hfu := fuE
    unfold fX10_extend_14
    have kc1 : 0 ≤ (m.1 3 1).toInt ∧ (m.1 3 1).toInt ≤ 14 := hI.1 3 1
    refine s_le (fun kh2 => ?_) (fun kh2 => ?_)
    · exact s_ret ⟨trivial, hI, hF⟩
    · have kc3 := L31
      have kc4 : 0 ≤ (v7 &&& (31 : Int32)).toInt ∧ (v7 &&& (31 : Int32)).toInt ≤ ((31 : Int32)).toInt := a_andr (by omega)
      have kc5 : 0 ≤ (v7 &&& (31 : Int32)).toInt ∧ (v7 &&& (31 : Int32)).toInt ≤ (v7).toInt := a_andl (by omega)
      have kc6 : 0 ≤ (v2 >>> (v7 &&& (31 : Int32))).toInt ∧ (v2 >>> (v7 &&& (31 : Int32))).toInt ≤ (v2).toInt := a_shr (by omega)
      have kc7 := L1
      have kc8 : 0 ≤ ((v2 >>> (v7 &&& (31 : Int32))) &&& (1 : Int32)).toInt ∧ ((v2 >>> (v7 &&& (31 : Int32))) &&& (1 : Int32)).toInt ≤ ((1 : Int32)).toInt := a_andr (by omega)
      have kc9 : 0 ≤ ((v2 >>> (v7 &&& (31 : Int32))) &&& (1 : Int32)).toInt ∧ ((v2 >>> (v7 &&& (31 : Int32))) &&& (1 : Int32)).toInt ≤ ((v2 >>> (v7 &&& (31 : Int32)))).toInt := a_andl (by omega)
      have kc10 := L0
      refine s_eq (fun kh11 => ?_) (fun kh11 => ?_)
      · refine s_bd (zX2_touches v7 v5 m (show 0 ≤ v7.toInt ∧ v7.toInt ≤ 13 ∧ 0 ≤ v5.toInt ∧ v5.toInt ≤ 15 by omega) hI) (fun r2 kr12 => ?_)
        replace kr12 : (0 ≤ r2.toInt) ∧ (r2.toInt ≤ 1) := kr12
        refine s_eq (fun kh13 => ?_) (fun kh13 => ?_)
        · have kc14 : (v7 + (1 : Int32)).toInt = (v7).toInt + 1 := a_addl L1 (by omega) (by omega)
          exact ih v2 v4 v5 v6 (v7 + (1 : Int32)) m (show 0 ≤ v2.toInt ∧ v2.toInt ≤ 16383 ∧ 0 ≤ v4.toInt ∧ v4.toInt ≤ 9999 ∧ 0 ≤ v5.toInt ∧ v5.toInt ≤ 15 ∧ 0 ≤ v6.toInt ∧ v6.toInt ≤ 4095 ∧ 0 ≤ (v7 + (1 : Int32)).toInt ∧ (v7 + (1 : Int32)).toInt ≤ 14 ∧ 14 - (v7 + (1 : Int32)).toInt < (n : Int) by omega) hI hF
        · refine s_bd (zX2_minutesFrom v7 v5 m (show 0 ≤ v7.toInt ∧ v7.toInt ≤ 13 ∧ 0 ≤ v5.toInt ∧ v5.toInt ≤ 15 by omega) hI) (fun r4 kr15 => ?_)
          replace kr15 : (0 ≤ r4.toInt) ∧ (r4.toInt ≤ 29) := kr15
          refine s_bd (zX2_otherEnd v7 v5 m (show 0 ≤ v7.toInt ∧ v7.toInt ≤ 13 ∧ 0 ≤ v5.toInt ∧ v5.toInt ≤ 15 by omega) hI) (fun r6 kr16 => ?_)
          replace kr16 : (0 ≤ r6.toInt) ∧ (r6.toInt ≤ 9) := kr16
          have kc17 : (v6 + r4).toInt = (v6).toInt + (r4).toInt := a_add (by omega) (by omega)
          refine s_lt (fun kh18 => ?_) (fun kh18 => ?_)
          · have kc19 : (v7 + (1 : Int32)).toInt = (v7).toInt + 1 := a_addl L1 (by omega) (by omega)
            exact ih v2 v4 v5 v6 (v7 + (1 : Int32)) m (show 0 ≤ v2.toInt ∧ v2.toInt ≤ 16383 ∧ 0 ≤ v4.toInt ∧ v4.toInt ≤ 9999 ∧ 0 ≤ v5.toInt ∧ v5.toInt ≤ 15 ∧ 0 ≤ v6.toInt ∧ v6.toInt ≤ 4095 ∧ 0 ≤ (v7 + (1 : Int32)).toInt ∧ (v7 + (1 : Int32)).toInt ≤ 14 ∧ 14 - (v7 + (1 : Int32)).toInt < (n : Int) by omega) hI hF
          · have kc20 : 1 ≤ ((1 : Int32) <<< (v7 &&& (31 : Int32))).toInt ∧ ((1 : Int32) <<< (v7 &&& (31 : Int32))).toInt ≤ 8192 := a_shl 13 (by decide) (by decide) (by omega) (by omega)
            have kc21 : 0 ≤ (v2 ||| ((1 : Int32) <<< (v7 &&& (31 : Int32)))).toInt ∧ (v2 ||| ((1 : Int32) <<< (v7 &&& (31 : Int32)))).toInt < 16384 := a_or 14 (by decide) (by decide) (by omega) (by omega) (by omega) (by omega)
            refine s_bd (zX3_at_i1 (v2 ||| ((1 : Int32) <<< (v7 &&& (31 : Int32)))) m (show 0 ≤ (v2 ||| ((1 : Int32) <<< (v7 &&& (31 : Int32)))).toInt ∧ (v2 ||| ((1 : Int32) <<< (v7 &&& (31 : Int32)))).toInt ≤ 16383 by omega) hI) (fun r8 kr22 => ?_)
            replace kr22 : (0 ≤ r8.toInt) ∧ (r8.toInt ≤ 65535) := kr22
            have kc23 := L4
            have kc24 : 0 ≤ ((4 : Int32) &&& (31 : Int32)).toInt ∧ ((4 : Int32) &&& (31 : Int32)).toInt ≤ ((31 : Int32)).toInt := a_andr (by omega)
            have kc25 : 0 ≤ ((4 : Int32) &&& (31 : Int32)).toInt ∧ ((4 : Int32) &&& (31 : Int32)).toInt ≤ ((4 : Int32)).toInt := a_andl (by omega)
            refine s_le (fun kh26 => ?_) (fun kh26 => ?_)
            · have kc27 : (v7 + (1 : Int32)).toInt = (v7).toInt + 1 := a_addl L1 (by omega) (by omega)
              exact ih v2 v4 v5 v6 (v7 + (1 : Int32)) m (show 0 ≤ v2.toInt ∧ v2.toInt ≤ 16383 ∧ 0 ≤ v4.toInt ∧ v4.toInt ≤ 9999 ∧ 0 ≤ v5.toInt ∧ v5.toInt ≤ 15 ∧ 0 ≤ v6.toInt ∧ v6.toInt ≤ 4095 ∧ 0 ≤ (v7 + (1 : Int32)).toInt ∧ (v7 + (1 : Int32)).toInt ≤ 14 ∧ 14 - (v7 + (1 : Int32)).toInt < (n : Int) by omega) hI hF
            · refine s_bd (zX3_put_i1 (v2 ||| ((1 : Int32) <<< (v7 &&& (31 : Int32)))) (((v6 + r4) <<< ((4 : Int32) &&& (31 : Int32))) ||| r6) m (show 0 ≤ (v2 ||| ((1 : Int32) <<< (v7 &&& (31 : Int32)))).toInt ∧ (v2 ||| ((1 : Int32) <<< (v7 &&& (31 : Int32)))).toInt ≤ 16383 ∧ (((v6 + r4) <<< ((4 : Int32) &&& (31 : Int32))) ||| r6).toInt ≤ 65534 by omega) hI) (fun m10 kr28 => ?_)
              obtain ⟨kp29, ki30, kf31⟩ := kr28
              have kc32 : (v7 + (1 : Int32)).toInt = (v7).toInt + 1 := a_addl L1 (by omega) (by omega)
              have kf33 : Fr wX10_extend m0 m10 := Fr.trans hF kf31 rfl
              exact ih v2 v4 v5 v6 (v7 + (1 : Int32)) m10 (show 0 ≤ v2.toInt ∧ v2.toInt ≤ 16383 ∧ 0 ≤ v4.toInt ∧ v4.toInt ≤ 9999 ∧ 0 ≤ v5.toInt ∧ v5.toInt ≤ 15 ∧ 0 ≤ v6.toInt ∧ v6.toInt ≤ 4095 ∧ 0 ≤ (v7 + (1 : Int32)).toInt ∧ (v7 + (1 : Int32)).toInt ≤ 14 ∧ 14 - (v7 + (1 : Int32)).toInt < (n : Int) by omega) ki30 kf33
      · have kc34 : (v7 + (1 : Int32)).toInt = (v7).toInt + 1 := a_addl L1 (by omega) (by omega)
        exact ih v2 v4 v5 v6 (v7 + (1 : Int32)) m (show 0 ≤ v2.toInt ∧ v2.toInt ≤ 16383 ∧ 0 ≤ v4.toInt ∧ v4.toInt ≤ 9999 ∧ 0 ≤ v5.toInt ∧ v5.toInt ≤ 15 ∧ 0 ≤ v6.toInt ∧ v6.toInt ≤ 4095 ∧ 0 ≤ (v7 + (1 : Int32)).toInt ∧ (v7 + (1 : Int32)).toInt ≤ 14 ∧ 14 - (v7 + (1 : Int32)).toInt < (n : Int) by omega) hI hF
theorem zX10_extend (x1 : Int32) (x2 : Int32) (x3 : Int32) (m : sm_S) (hp : 0 ≤ x1.toInt ∧ x1.toInt ≤ 16383 ∧ 0 ≤ x2.toInt ∧ x2.toInt ≤ 65534 ∧ 0 ≤ x3.toInt ∧ x3.toInt ≤ 9999) (hI : zI m) : Sf (fun r => (True) ∧ zI r ∧ Fr wX10_extend m r) (fX10_extend x1 x2 x3 m) := by
  have hfu := fuE
  unfold fX10_extend
  have kc1 := L15
  have kc2 : 0 ≤ (x2 &&& (15 : Int32)).toInt ∧ (x2 &&& (15 : Int32)).toInt ≤ ((15 : Int32)).toInt := a_andr (by omega)
  have kc3 : 0 ≤ (x2 &&& (15 : Int32)).toInt ∧ (x2 &&& (15 : Int32)).toInt ≤ (x2).toInt := a_andl (by omega)
  have kc4 := L4
  have kc5 := L31
  have kc6 : 0 ≤ ((4 : Int32) &&& (31 : Int32)).toInt ∧ ((4 : Int32) &&& (31 : Int32)).toInt ≤ ((31 : Int32)).toInt := a_andr (by omega)
  have kc7 : 0 ≤ ((4 : Int32) &&& (31 : Int32)).toInt ∧ ((4 : Int32) &&& (31 : Int32)).toInt ≤ ((4 : Int32)).toInt := a_andl (by omega)
  have kc8 : (x2 >>> ((4 : Int32) &&& (31 : Int32))).toInt = (x2).toInt / 16 := a_shrE 4 (by decide) (by decide) (by decide)
  have kc9 := L0
  exact zX10_extend_14 m sm_fu x1 x3 (x2 &&& (15 : Int32)) (x2 >>> ((4 : Int32) &&& (31 : Int32))) (0 : Int32) m (show 0 ≤ x1.toInt ∧ x1.toInt ≤ 16383 ∧ 0 ≤ x3.toInt ∧ x3.toInt ≤ 9999 ∧ 0 ≤ (x2 &&& (15 : Int32)).toInt ∧ (x2 &&& (15 : Int32)).toInt ≤ 15 ∧ 0 ≤ (x2 >>> ((4 : Int32) &&& (31 : Int32))).toInt ∧ (x2 >>> ((4 : Int32) &&& (31 : Int32))).toInt ≤ 4095 ∧ 0 ≤ (0 : Int32).toInt ∧ (0 : Int32).toInt ≤ 14 ∧ 14 - (0 : Int32).toInt < (sm_fu : Int) by omega) hI Fr.refl
theorem zX10_explore_33 (m0 : sm_S) : ∀ (n : Nat) (v3 : Int32) (v4 : Int32) (m : sm_S), (0 ≤ v3.toInt ∧ v3.toInt ≤ 9999 ∧ 0 ≤ v4.toInt ∧ v4.toInt ≤ 16384 ∧ 16384 - v4.toInt < (n : Int)) → zI m → Fr wX10_explore m0 m → Sf (fun r => (True) ∧ zI r ∧ Fr wX10_explore m0 r) (fX10_explore_33 n v3 v4 m) := by
  intro n
  induction n with
  | zero =>
    intro v3 v4 m hp hI hF
    exfalso
    omega
  | succ n ih =>
    intro v3 v4 m hp hI hF
    have hnn : ((n + 1 : Nat) : Int) = (n : Int) + 1 := by omega
    have hfu := fuE
    unfold fX10_explore_33
    have kc1 : 0 ≤ (m.1 31 1).toInt ∧ (m.1 31 1).toInt ≤ 16384 := hI.1 31 1
    refine s_le (fun kh2 => ?_) (fun kh2 => ?_)
    · exact s_ret ⟨trivial, hI, hF⟩
    · refine s_bd (zX3_at_i1 v4 m (show 0 ≤ v4.toInt ∧ v4.toInt ≤ 16383 by omega) hI) (fun r6 kr3 => ?_)
      replace kr3 : (0 ≤ r6.toInt) ∧ (r6.toInt ≤ 65535) := kr3
      have kc4 := L65535
      refine s_le (fun kh5 => ?_) (fun kh5 => ?_)
      · have kc6 : (v4 + (1 : Int32)).toInt = (v4).toInt + 1 := a_addl L1 (by omega) (by omega)
        exact ih v3 (v4 + (1 : Int32)) m (show 0 ≤ v3.toInt ∧ v3.toInt ≤ 9999 ∧ 0 ≤ (v4 + (1 : Int32)).toInt ∧ (v4 + (1 : Int32)).toInt ≤ 16384 ∧ 16384 - (v4 + (1 : Int32)).toInt < (n : Int) by omega) hI hF
      · refine s_bd (zX10_extend v4 r6 v3 m (show 0 ≤ v4.toInt ∧ v4.toInt ≤ 16383 ∧ 0 ≤ r6.toInt ∧ r6.toInt ≤ 65534 ∧ 0 ≤ v3.toInt ∧ v3.toInt ≤ 9999 by omega) hI) (fun m8 kr7 => ?_)
        obtain ⟨kp8, ki9, kf10⟩ := kr7
        have kc11 : (v4 + (1 : Int32)).toInt = (v4).toInt + 1 := a_addl L1 (by omega) (by omega)
        have kf12 : Fr wX10_explore m0 m8 := Fr.trans hF kf10 rfl
        exact ih v3 (v4 + (1 : Int32)) m8 (show 0 ≤ v3.toInt ∧ v3.toInt ≤ 9999 ∧ 0 ≤ (v4 + (1 : Int32)).toInt ∧ (v4 + (1 : Int32)).toInt ≤ 16384 ∧ 16384 - (v4 + (1 : Int32)).toInt < (n : Int) by omega) ki9 kf12
theorem zX10_explore (x1 : Int32) (x2 : Int32) (m : sm_S) (hp : 0 ≤ x1.toInt ∧ x1.toInt ≤ 9 ∧ 0 ≤ x2.toInt ∧ x2.toInt ≤ 9999) (hI : zI m) : Sf (fun r => (True) ∧ zI r ∧ Fr wX10_explore m r) (fX10_explore x1 x2 m) := by
  have hfu := fuE
  unfold fX10_explore
  have kc1 := L1
  have kc2 : 0 ≤ (m.1 3 1).toInt ∧ (m.1 3 1).toInt ≤ 14 := hI.1 3 1
  have kc3 := L31
  have kc4 : 0 ≤ ((m.1 3 1) &&& (31 : Int32)).toInt ∧ ((m.1 3 1) &&& (31 : Int32)).toInt ≤ ((31 : Int32)).toInt := a_andr (by omega)
  have kc5 : 0 ≤ ((m.1 3 1) &&& (31 : Int32)).toInt ∧ ((m.1 3 1) &&& (31 : Int32)).toInt ≤ ((m.1 3 1)).toInt := a_andl (by omega)
  have kc6 : 1 ≤ ((1 : Int32) <<< ((m.1 3 1) &&& (31 : Int32))).toInt ∧ ((1 : Int32) <<< ((m.1 3 1) &&& (31 : Int32))).toInt ≤ 16384 := a_shl 14 (by decide) (by decide) (by omega) (by omega)
  have ki7 : zI (sm_w1 m 31 1 ((1 : Int32) <<< ((m.1 3 1) &&& (31 : Int32)))) := zI.w hI rfl (show 0 ≤ (((1 : Int32) <<< ((m.1 3 1) &&& (31 : Int32)))).toInt ∧ (((1 : Int32) <<< ((m.1 3 1) &&& (31 : Int32)))).toInt ≤ 16384 by omega)
  refine s_bd (zX3_fillWithForever ((1 : Int32) <<< ((m.1 3 1) &&& (31 : Int32))) (sm_w1 m 31 1 ((1 : Int32) <<< ((m.1 3 1) &&& (31 : Int32)))) (show 1 ≤ ((1 : Int32) <<< ((m.1 3 1) &&& (31 : Int32))).toInt ∧ ((1 : Int32) <<< ((m.1 3 1) &&& (31 : Int32))).toInt ≤ 16384 by omega) ki7) (fun m2 kr8 => ?_)
  obtain ⟨kp9, ki10, kf11⟩ := kr8
  have kc12 := L0
  refine s_bd (zX3_put_i1 (0 : Int32) x1 m2 (show 0 ≤ (0 : Int32).toInt ∧ (0 : Int32).toInt ≤ 16383 ∧ x1.toInt ≤ 65534 by omega) ki10) (fun m4 kr13 => ?_)
  obtain ⟨kp14, ki15, kf16⟩ := kr13
  have kf17 : Fr wX10_explore m (sm_w1 m 31 1 ((1 : Int32) <<< ((m.1 3 1) &&& (31 : Int32)))) := Fr.w Fr.refl rfl
  have kf18 : Fr wX10_explore m m2 := Fr.trans kf17 kf11 rfl
  have kf19 : Fr wX10_explore m m4 := Fr.trans kf18 kf16 rfl
  exact zX10_explore_33 m sm_fu x2 (0 : Int32) m4 (show 0 ≤ x2.toInt ∧ x2.toInt ≤ 9999 ∧ 0 ≤ (0 : Int32).toInt ∧ (0 : Int32).toInt ≤ 16384 ∧ 16384 - (0 : Int32).toInt < (sm_fu : Int) by omega) ki15 kf19
theorem zX2_worthOf_4 : ∀ (n : Nat) (v1 : Int32) (v2 : Int32) (v3 : Int32) (m : sm_S), (0 ≤ v1.toInt ∧ v1.toInt ≤ 16383 ∧ 0 ≤ v3.toInt ∧ v3.toInt ≤ 14 ∧ 14 - v3.toInt < (n : Int)) → zI m → Sf (fun r => True) (fX2_worthOf_4 n v1 v2 v3 m) := by
  intro n
  induction n with
  | zero =>
    intro v1 v2 v3 m hp hI
    exfalso
    omega
  | succ n ih =>
    intro v1 v2 v3 m hp hI
    have hnn : ((n + 1 : Nat) : Int) = (n : Int) + 1 := by omega
    have hfu := fuE
    unfold fX2_worthOf_4
    have kc1 : 0 ≤ (m.1 3 1).toInt ∧ (m.1 3 1).toInt ≤ 14 := hI.1 3 1
    refine s_le (fun kh2 => ?_) (fun kh2 => ?_)
    · exact s_ret trivial
    · have kc3 := L31
      have kc4 : 0 ≤ (v3 &&& (31 : Int32)).toInt ∧ (v3 &&& (31 : Int32)).toInt ≤ ((31 : Int32)).toInt := a_andr (by omega)
      have kc5 : 0 ≤ (v3 &&& (31 : Int32)).toInt ∧ (v3 &&& (31 : Int32)).toInt ≤ (v3).toInt := a_andl (by omega)
      have kc6 : 0 ≤ (v1 >>> (v3 &&& (31 : Int32))).toInt ∧ (v1 >>> (v3 &&& (31 : Int32))).toInt ≤ (v1).toInt := a_shr (by omega)
      have kc7 := L1
      have kc8 : 0 ≤ ((v1 >>> (v3 &&& (31 : Int32))) &&& (1 : Int32)).toInt ∧ ((v1 >>> (v3 &&& (31 : Int32))) &&& (1 : Int32)).toInt ≤ ((1 : Int32)).toInt := a_andr (by omega)
      have kc9 : 0 ≤ ((v1 >>> (v3 &&& (31 : Int32))) &&& (1 : Int32)).toInt ∧ ((v1 >>> (v3 &&& (31 : Int32))) &&& (1 : Int32)).toInt ≤ ((v1 >>> (v3 &&& (31 : Int32)))).toInt := a_andl (by omega)
      have kc10 := L0
      refine s_eq (fun kh11 => ?_) (fun kh11 => ?_)
      · have kc12 : (v3 + (1 : Int32)).toInt = (v3).toInt + 1 := a_addl L1 (by omega) (by omega)
        exact ih v1 v2 (v3 + (1 : Int32)) m (show 0 ≤ v1.toInt ∧ v1.toInt ≤ 16383 ∧ 0 ≤ (v3 + (1 : Int32)).toInt ∧ (v3 + (1 : Int32)).toInt ≤ 14 ∧ 14 - (v3 + (1 : Int32)).toInt < (n : Int) by omega) hI
      · have kx13 : 0 ≤ (v3).toInt ∧ (v3).toInt < (14 : Int) := by omega
        refine s_ix kx13 ?_
        have kc14 : 0 ≤ (m.1 11 (v3).toNatClampNeg).toInt ∧ (m.1 11 (v3).toNatClampNeg).toInt ≤ 9 := hI.1 11 (v3).toNatClampNeg
        have kc15 : (v3 + (1 : Int32)).toInt = (v3).toInt + 1 := a_addl L1 (by omega) (by omega)
        exact ih v1 (v2 + (m.1 11 (v3).toNatClampNeg)) (v3 + (1 : Int32)) m (show 0 ≤ v1.toInt ∧ v1.toInt ≤ 16383 ∧ 0 ≤ (v3 + (1 : Int32)).toInt ∧ (v3 + (1 : Int32)).toInt ≤ 14 ∧ 14 - (v3 + (1 : Int32)).toInt < (n : Int) by omega) hI
theorem zX2_worthOf (x1 : Int32) (m : sm_S) (hp : 0 ≤ x1.toInt ∧ x1.toInt ≤ 16383) (hI : zI m) : Sf (fun r => True) (fX2_worthOf x1 m) := by
  have hfu := fuE
  unfold fX2_worthOf
  have kc1 := L0
  exact zX2_worthOf_4 sm_fu x1 (0 : Int32) (0 : Int32) m (show 0 ≤ x1.toInt ∧ x1.toInt ≤ 16383 ∧ 0 ≤ (0 : Int32).toInt ∧ (0 : Int32).toInt ≤ 14 ∧ 14 - (0 : Int32).toInt < (sm_fu : Int) by omega) hI
theorem zX10_minutesOf (x1 : Int32) (m : sm_S) (hp : 0 ≤ x1.toInt ∧ x1.toInt ≤ 16383) (hI : zI m) : Sf (fun r => (0 ≤ r.toInt) ∧ (r.toInt ≤ 4095)) (fX10_minutesOf x1 m) := by
  have hfu := fuE
  unfold fX10_minutesOf
  refine s_bd (zX3_at_i1 x1 m (show 0 ≤ x1.toInt ∧ x1.toInt ≤ 16383 by omega) hI) (fun r2 kr1 => ?_)
  replace kr1 : (0 ≤ r2.toInt) ∧ (r2.toInt ≤ 65535) := kr1
  have kc2 := L4
  have kc3 := L31
  have kc4 : 0 ≤ ((4 : Int32) &&& (31 : Int32)).toInt ∧ ((4 : Int32) &&& (31 : Int32)).toInt ≤ ((31 : Int32)).toInt := a_andr (by omega)
  have kc5 : 0 ≤ ((4 : Int32) &&& (31 : Int32)).toInt ∧ ((4 : Int32) &&& (31 : Int32)).toInt ≤ ((4 : Int32)).toInt := a_andl (by omega)
  have kc6 : (r2 >>> ((4 : Int32) &&& (31 : Int32))).toInt = (r2).toInt / 16 := a_shrE 4 (by decide) (by decide) (by decide)
  exact s_ret (show (0 ≤ (r2 >>> ((4 : Int32) &&& (31 : Int32))).toInt) ∧ ((r2 >>> ((4 : Int32) &&& (31 : Int32))).toInt ≤ 4095) by omega)
theorem zX10_dearest_9 : ∀ (n : Nat) (v2 : Int32) (v3 : Int32) (v4 : Int32) (v5 : Int32) (v6 : Int32) (m : sm_S), (0 ≤ v2.toInt ∧ v2.toInt ≤ 9 ∧ 0 ≤ v3.toInt ∧ v3.toInt ≤ 1 ∧ 0 ≤ v4.toInt ∧ v4.toInt ≤ 16383 ∧ 0 ≤ v5.toInt ∧ 1 ≤ v6.toInt ∧ v6.toInt ≤ 16384 ∧ 16384 - v6.toInt < (n : Int)) → zI m → Sf (fun r => (0 ≤ r.toInt) ∧ (r.toInt ≤ 16383)) (fX10_dearest_9 n v2 v3 v4 v5 v6 m) := by
  intro n
  induction n with
  | zero =>
    intro v2 v3 v4 v5 v6 m hp hI
    have krgv5 := rg v5
    exfalso
    omega
  | succ n ih =>
    intro v2 v3 v4 v5 v6 m hp hI
    have hnn : ((n + 1 : Nat) : Int) = (n : Int) + 1 := by omega
    have hfu := fuE
    have krgv5 := rg v5
    unfold fX10_dearest_9
    have kc1 : 0 ≤ (m.1 31 1).toInt ∧ (m.1 31 1).toInt ≤ 16384 := hI.1 31 1
    refine s_le (fun kh2 => ?_) (fun kh2 => ?_)
    · exact s_ret (show (0 ≤ v4.toInt) ∧ (v4.toInt ≤ 16383) by omega)
    · refine s_bd (zX3_at_i1 v6 m (show 0 ≤ v6.toInt ∧ v6.toInt ≤ 16383 by omega) hI) (fun r2 kr3 => ?_)
      replace kr3 : (0 ≤ r2.toInt) ∧ (r2.toInt ≤ 65535) := kr3
      have kc4 := L65535
      refine s_le (fun kh5 => ?_) (fun kh5 => ?_)
      · have kc6 : (v6 + (1 : Int32)).toInt = (v6).toInt + 1 := a_addl L1 (by omega) (by omega)
        exact ih v2 v3 v4 v5 (v6 + (1 : Int32)) m (show 0 ≤ v2.toInt ∧ v2.toInt ≤ 9 ∧ 0 ≤ v3.toInt ∧ v3.toInt ≤ 1 ∧ 0 ≤ v4.toInt ∧ v4.toInt ≤ 16383 ∧ 0 ≤ v5.toInt ∧ 1 ≤ (v6 + (1 : Int32)).toInt ∧ (v6 + (1 : Int32)).toInt ≤ 16384 ∧ 16384 - (v6 + (1 : Int32)).toInt < (n : Int) by omega) hI
      · have kc7 := L0
        refine s_eq (fun kh8 => ?_) (fun kh8 => ?_)
        · refine s_bd (zX2_worthOf v6 m (show 0 ≤ v6.toInt ∧ v6.toInt ≤ 16383 by omega) hI) (fun r4 kr9 => ?_)
          refine s_lt (fun kh10 => ?_) (fun kh10 => ?_)
          · have kc11 : (v6 + (1 : Int32)).toInt = (v6).toInt + 1 := a_addl L1 (by omega) (by omega)
            exact ih v2 v3 v6 r4 (v6 + (1 : Int32)) m (show 0 ≤ v2.toInt ∧ v2.toInt ≤ 9 ∧ 0 ≤ v3.toInt ∧ v3.toInt ≤ 1 ∧ 0 ≤ v6.toInt ∧ v6.toInt ≤ 16383 ∧ 0 ≤ r4.toInt ∧ 1 ≤ (v6 + (1 : Int32)).toInt ∧ (v6 + (1 : Int32)).toInt ≤ 16384 ∧ 16384 - (v6 + (1 : Int32)).toInt < (n : Int) by omega) hI
          · refine s_eq (fun kh12 => ?_) (fun kh12 => ?_)
            · refine s_bd (zX10_minutesOf v6 m (show 0 ≤ v6.toInt ∧ v6.toInt ≤ 16383 by omega) hI) (fun r6 kr13 => ?_)
              replace kr13 : (0 ≤ r6.toInt) ∧ (r6.toInt ≤ 4095) := kr13
              refine s_bd (zX10_minutesOf v4 m (show 0 ≤ v4.toInt ∧ v4.toInt ≤ 16383 by omega) hI) (fun r8 kr14 => ?_)
              replace kr14 : (0 ≤ r8.toInt) ∧ (r8.toInt ≤ 4095) := kr14
              refine s_le (fun kh15 => ?_) (fun kh15 => ?_)
              · have kc16 : (v6 + (1 : Int32)).toInt = (v6).toInt + 1 := a_addl L1 (by omega) (by omega)
                exact ih v2 v3 v4 v5 (v6 + (1 : Int32)) m (show 0 ≤ v2.toInt ∧ v2.toInt ≤ 9 ∧ 0 ≤ v3.toInt ∧ v3.toInt ≤ 1 ∧ 0 ≤ v4.toInt ∧ v4.toInt ≤ 16383 ∧ 0 ≤ v5.toInt ∧ 1 ≤ (v6 + (1 : Int32)).toInt ∧ (v6 + (1 : Int32)).toInt ≤ 16384 ∧ 16384 - (v6 + (1 : Int32)).toInt < (n : Int) by omega) hI
              · have kc17 : (v6 + (1 : Int32)).toInt = (v6).toInt + 1 := a_addl L1 (by omega) (by omega)
                exact ih v2 v3 v6 r4 (v6 + (1 : Int32)) m (show 0 ≤ v2.toInt ∧ v2.toInt ≤ 9 ∧ 0 ≤ v3.toInt ∧ v3.toInt ≤ 1 ∧ 0 ≤ v6.toInt ∧ v6.toInt ≤ 16383 ∧ 0 ≤ r4.toInt ∧ 1 ≤ (v6 + (1 : Int32)).toInt ∧ (v6 + (1 : Int32)).toInt ≤ 16384 ∧ 16384 - (v6 + (1 : Int32)).toInt < (n : Int) by omega) hI
            · have kc18 : (v6 + (1 : Int32)).toInt = (v6).toInt + 1 := a_addl L1 (by omega) (by omega)
              exact ih v2 v3 v4 v5 (v6 + (1 : Int32)) m (show 0 ≤ v2.toInt ∧ v2.toInt ≤ 9 ∧ 0 ≤ v3.toInt ∧ v3.toInt ≤ 1 ∧ 0 ≤ v4.toInt ∧ v4.toInt ≤ 16383 ∧ 0 ≤ v5.toInt ∧ 1 ≤ (v6 + (1 : Int32)).toInt ∧ (v6 + (1 : Int32)).toInt ≤ 16384 ∧ 16384 - (v6 + (1 : Int32)).toInt < (n : Int) by omega) hI
        · have kc19 := L15
          have kc20 : 0 ≤ (r2 &&& (15 : Int32)).toInt ∧ (r2 &&& (15 : Int32)).toInt ≤ ((15 : Int32)).toInt := a_andr (by omega)
          have kc21 : 0 ≤ (r2 &&& (15 : Int32)).toInt ∧ (r2 &&& (15 : Int32)).toInt ≤ (r2).toInt := a_andl (by omega)
          refine s_eq (fun kh22 => ?_) (fun kh22 => ?_)
          · refine s_bd (zX2_worthOf v6 m (show 0 ≤ v6.toInt ∧ v6.toInt ≤ 16383 by omega) hI) (fun r10 kr23 => ?_)
            refine s_lt (fun kh24 => ?_) (fun kh24 => ?_)
            · have kc25 : (v6 + (1 : Int32)).toInt = (v6).toInt + 1 := a_addl L1 (by omega) (by omega)
              exact ih v2 v3 v6 r10 (v6 + (1 : Int32)) m (show 0 ≤ v2.toInt ∧ v2.toInt ≤ 9 ∧ 0 ≤ v3.toInt ∧ v3.toInt ≤ 1 ∧ 0 ≤ v6.toInt ∧ v6.toInt ≤ 16383 ∧ 0 ≤ r10.toInt ∧ 1 ≤ (v6 + (1 : Int32)).toInt ∧ (v6 + (1 : Int32)).toInt ≤ 16384 ∧ 16384 - (v6 + (1 : Int32)).toInt < (n : Int) by omega) hI
            · refine s_eq (fun kh26 => ?_) (fun kh26 => ?_)
              · refine s_bd (zX10_minutesOf v6 m (show 0 ≤ v6.toInt ∧ v6.toInt ≤ 16383 by omega) hI) (fun r12 kr27 => ?_)
                replace kr27 : (0 ≤ r12.toInt) ∧ (r12.toInt ≤ 4095) := kr27
                refine s_bd (zX10_minutesOf v4 m (show 0 ≤ v4.toInt ∧ v4.toInt ≤ 16383 by omega) hI) (fun r14 kr28 => ?_)
                replace kr28 : (0 ≤ r14.toInt) ∧ (r14.toInt ≤ 4095) := kr28
                refine s_le (fun kh29 => ?_) (fun kh29 => ?_)
                · have kc30 : (v6 + (1 : Int32)).toInt = (v6).toInt + 1 := a_addl L1 (by omega) (by omega)
                  exact ih v2 v3 v4 v5 (v6 + (1 : Int32)) m (show 0 ≤ v2.toInt ∧ v2.toInt ≤ 9 ∧ 0 ≤ v3.toInt ∧ v3.toInt ≤ 1 ∧ 0 ≤ v4.toInt ∧ v4.toInt ≤ 16383 ∧ 0 ≤ v5.toInt ∧ 1 ≤ (v6 + (1 : Int32)).toInt ∧ (v6 + (1 : Int32)).toInt ≤ 16384 ∧ 16384 - (v6 + (1 : Int32)).toInt < (n : Int) by omega) hI
                · have kc31 : (v6 + (1 : Int32)).toInt = (v6).toInt + 1 := a_addl L1 (by omega) (by omega)
                  exact ih v2 v3 v6 r10 (v6 + (1 : Int32)) m (show 0 ≤ v2.toInt ∧ v2.toInt ≤ 9 ∧ 0 ≤ v3.toInt ∧ v3.toInt ≤ 1 ∧ 0 ≤ v6.toInt ∧ v6.toInt ≤ 16383 ∧ 0 ≤ r10.toInt ∧ 1 ≤ (v6 + (1 : Int32)).toInt ∧ (v6 + (1 : Int32)).toInt ≤ 16384 ∧ 16384 - (v6 + (1 : Int32)).toInt < (n : Int) by omega) hI
              · have kc32 : (v6 + (1 : Int32)).toInt = (v6).toInt + 1 := a_addl L1 (by omega) (by omega)
                exact ih v2 v3 v4 v5 (v6 + (1 : Int32)) m (show 0 ≤ v2.toInt ∧ v2.toInt ≤ 9 ∧ 0 ≤ v3.toInt ∧ v3.toInt ≤ 1 ∧ 0 ≤ v4.toInt ∧ v4.toInt ≤ 16383 ∧ 0 ≤ v5.toInt ∧ 1 ≤ (v6 + (1 : Int32)).toInt ∧ (v6 + (1 : Int32)).toInt ≤ 16384 ∧ 16384 - (v6 + (1 : Int32)).toInt < (n : Int) by omega) hI
          · have kc33 : (v6 + (1 : Int32)).toInt = (v6).toInt + 1 := a_addl L1 (by omega) (by omega)
            exact ih v2 v3 v4 v5 (v6 + (1 : Int32)) m (show 0 ≤ v2.toInt ∧ v2.toInt ≤ 9 ∧ 0 ≤ v3.toInt ∧ v3.toInt ≤ 1 ∧ 0 ≤ v4.toInt ∧ v4.toInt ≤ 16383 ∧ 0 ≤ v5.toInt ∧ 1 ≤ (v6 + (1 : Int32)).toInt ∧ (v6 + (1 : Int32)).toInt ≤ 16384 ∧ 16384 - (v6 + (1 : Int32)).toInt < (n : Int) by omega) hI
theorem zX10_dearest (x1 : Int32) (x2 : Int32) (m : sm_S) (hp : 0 ≤ x1.toInt ∧ x1.toInt ≤ 9 ∧ 0 ≤ x2.toInt ∧ x2.toInt ≤ 1) (hI : zI m) : Sf (fun r => (0 ≤ r.toInt) ∧ (r.toInt ≤ 16383)) (fX10_dearest x1 x2 m) := by
  have hfu := fuE
  unfold fX10_dearest
  have kc1 := L0
  have kc2 := L1
  exact zX10_dearest_9 sm_fu x1 x2 (0 : Int32) (0 : Int32) (1 : Int32) m (show 0 ≤ x1.toInt ∧ x1.toInt ≤ 9 ∧ 0 ≤ x2.toInt ∧ x2.toInt ≤ 1 ∧ 0 ≤ (0 : Int32).toInt ∧ (0 : Int32).toInt ≤ 16383 ∧ 0 ≤ (0 : Int32).toInt ∧ 1 ≤ (1 : Int32).toInt ∧ (1 : Int32).toInt ≤ 16384 ∧ 16384 - (1 : Int32).toInt < (sm_fu : Int) by omega) hI
theorem zX11_mostWorth (x1 : Int32) (x2 : Int32) (x3 : Int32) (m : sm_S) (hp : 0 ≤ x3.toInt ∧ x3.toInt ≤ 1) (hI : zI m) : Sf (fun r => (True) ∧ zI r.2 ∧ Fr wX11_mostWorth m r.2) (fX11_mostWorth x1 x2 x3 m) := by
  have hfu := fuE
  unfold fX11_mostWorth
  refine s_bd (zX2_hasCorner x1 m hI) (fun r2 kr1 => ?_)
  replace kr1 : (0 ≤ r2.toInt) ∧ (r2.toInt ≤ 1) ∧ ((r2.toInt = 0 ∧ (x1.toInt < 0 ∨ (m.1 3 0).toInt ≤ x1.toInt)) ∨ (r2.toInt = 1 ∧ 0 ≤ x1.toInt ∧ x1.toInt < (m.1 3 0).toInt)) := kr1
  have kc2 := L0
  have kc3 : 0 ≤ (m.1 3 0).toInt ∧ (m.1 3 0).toInt ≤ 10 := hI.1 3 0
  refine s_eq (fun kh4 => ?_) (fun kh4 => ?_)
  · have kc5 := Ln1
    exact s_ret ⟨trivial, hI, Fr.refl⟩
  · refine s_lt (fun kh6 => ?_) (fun kh6 => ?_)
    · have kc7 := Ln1
      exact s_ret ⟨trivial, hI, Fr.refl⟩
    · have kc8 := L9999
      refine s_le (fun kh9 => ?_) (fun kh9 => ?_)
      · refine s_bd (zX10_explore x1 x2 m (show 0 ≤ x1.toInt ∧ x1.toInt ≤ 9 ∧ 0 ≤ x2.toInt ∧ x2.toInt ≤ 9999 by omega) hI) (fun m4 kr10 => ?_)
        obtain ⟨kp11, ki12, kf13⟩ := kr10
        refine s_bd (zX10_dearest x1 x3 m4 (show 0 ≤ x1.toInt ∧ x1.toInt ≤ 9 ∧ 0 ≤ x3.toInt ∧ x3.toInt ≤ 1 by omega) ki12) (fun r6 kr14 => ?_)
        replace kr14 : (0 ≤ r6.toInt) ∧ (r6.toInt ≤ 16383) := kr14
        refine s_bd (zX5_tell r6 m4 ki12) (fun m8 kr15 => ?_)
        obtain ⟨kp16, ki17, kf18⟩ := kr15
        refine s_bd (zX10_minutesOf r6 m8 (show 0 ≤ r6.toInt ∧ r6.toInt ≤ 16383 by omega) ki17) (fun r10 kr19 => ?_)
        replace kr19 : (0 ≤ r10.toInt) ∧ (r10.toInt ≤ 4095) := kr19
        refine s_bd (zX5_add r10 m8 ki17) (fun m12 kr20 => ?_)
        obtain ⟨kp21, ki22, kf23⟩ := kr20
        refine s_bd (zX2_worthOf r6 m12 (show 0 ≤ r6.toInt ∧ r6.toInt ≤ 16383 by omega) ki22) (fun r14 kr24 => ?_)
        have kf25 : Fr wX11_mostWorth m m4 := Fr.trans Fr.refl kf13 rfl
        have kf26 : Fr wX11_mostWorth m m8 := Fr.trans kf25 kf18 rfl
        have kf27 : Fr wX11_mostWorth m m12 := Fr.trans kf26 kf23 rfl
        exact s_ret ⟨trivial, ki22, kf27⟩
      · have kc28 := Ln1
        exact s_ret ⟨trivial, hI, Fr.refl⟩
theorem zX11_most (x1 : Int32) (x2 : Int32) (m : sm_S) (hI : zI m) : Sf (fun r => (True) ∧ zI r.2 ∧ Fr wX11_most m r.2) (fX11_most x1 x2 m) := by
  have hfu := fuE
  unfold fX11_most
  have kc1 := L0
  refine s_bd (zX11_mostWorth x1 x2 (0 : Int32) m (show 0 ≤ (0 : Int32).toInt ∧ (0 : Int32).toInt ≤ 1 by omega) hI) (fun r2 kr2 => ?_)
  obtain ⟨kp3, ki4, kf5⟩ := kr2
  have kf6 : Fr wX11_most m r2.2 := Fr.trans Fr.refl kf5 rfl
  exact s_ret ⟨trivial, ki4, kf6⟩
theorem zX11_home (x1 : Int32) (x2 : Int32) (m : sm_S) (hI : zI m) : Sf (fun r => (True) ∧ zI r.2 ∧ Fr wX11_home m r.2) (fX11_home x1 x2 m) := by
  have hfu := fuE
  unfold fX11_home
  have kc1 := L1
  refine s_bd (zX11_mostWorth x1 x2 (1 : Int32) m (show 0 ≤ (1 : Int32).toInt ∧ (1 : Int32).toInt ≤ 1 by omega) hI) (fun r2 kr2 => ?_)
  obtain ⟨kp3, ki4, kf5⟩ := kr2
  have kf6 : Fr wX11_home m r2.2 := Fr.trans Fr.refl kf5 rfl
  exact s_ret ⟨trivial, ki4, kf6⟩
theorem zX10_quickest_9 : ∀ (n : Nat) (v2 : Int32) (v3 : Int32) (v4 : Int32) (v5 : Int32) (m : sm_S), (0 ≤ v2.toInt ∧ v2.toInt ≤ 200 ∧ (-1 : Int) ≤ v3.toInt ∧ v3.toInt ≤ 16383 ∧ 0 ≤ v4.toInt ∧ v4.toInt ≤ 65535 ∧ 0 ≤ v5.toInt ∧ v5.toInt ≤ 16384 ∧ 16384 - v5.toInt < (n : Int)) → zI m → Sf (fun r => ((-1 : Int) ≤ r.toInt) ∧ (r.toInt ≤ 16383)) (fX10_quickest_9 n v2 v3 v4 v5 m) := by
  intro n
  induction n with
  | zero =>
    intro v2 v3 v4 v5 m hp hI
    exfalso
    omega
  | succ n ih =>
    intro v2 v3 v4 v5 m hp hI
    have hnn : ((n + 1 : Nat) : Int) = (n : Int) + 1 := by omega
    have hfu := fuE
    unfold fX10_quickest_9
    have kc1 : 0 ≤ (m.1 31 1).toInt ∧ (m.1 31 1).toInt ≤ 16384 := hI.1 31 1
    refine s_le (fun kh2 => ?_) (fun kh2 => ?_)
    · exact s_ret (show ((-1 : Int) ≤ v3.toInt) ∧ (v3.toInt ≤ 16383) by omega)
    · refine s_bd (zX3_at_i1 v5 m (show 0 ≤ v5.toInt ∧ v5.toInt ≤ 16383 by omega) hI) (fun r2 kr3 => ?_)
      replace kr3 : (0 ≤ r2.toInt) ∧ (r2.toInt ≤ 65535) := kr3
      have kc4 := L65535
      refine s_le (fun kh5 => ?_) (fun kh5 => ?_)
      · have kc6 : (v5 + (1 : Int32)).toInt = (v5).toInt + 1 := a_addl L1 (by omega) (by omega)
        exact ih v2 v3 v4 (v5 + (1 : Int32)) m (show 0 ≤ v2.toInt ∧ v2.toInt ≤ 200 ∧ (-1 : Int) ≤ v3.toInt ∧ v3.toInt ≤ 16383 ∧ 0 ≤ v4.toInt ∧ v4.toInt ≤ 65535 ∧ 0 ≤ (v5 + (1 : Int32)).toInt ∧ (v5 + (1 : Int32)).toInt ≤ 16384 ∧ 16384 - (v5 + (1 : Int32)).toInt < (n : Int) by omega) hI
      · have kc7 := L4
        have kc8 := L31
        have kc9 : 0 ≤ ((4 : Int32) &&& (31 : Int32)).toInt ∧ ((4 : Int32) &&& (31 : Int32)).toInt ≤ ((31 : Int32)).toInt := a_andr (by omega)
        have kc10 : 0 ≤ ((4 : Int32) &&& (31 : Int32)).toInt ∧ ((4 : Int32) &&& (31 : Int32)).toInt ≤ ((4 : Int32)).toInt := a_andl (by omega)
        have kc11 : (r2 >>> ((4 : Int32) &&& (31 : Int32))).toInt = (r2).toInt / 16 := a_shrE 4 (by decide) (by decide) (by decide)
        refine s_le (fun kh12 => ?_) (fun kh12 => ?_)
        · have kc13 : (v5 + (1 : Int32)).toInt = (v5).toInt + 1 := a_addl L1 (by omega) (by omega)
          exact ih v2 v3 v4 (v5 + (1 : Int32)) m (show 0 ≤ v2.toInt ∧ v2.toInt ≤ 200 ∧ (-1 : Int) ≤ v3.toInt ∧ v3.toInt ≤ 16383 ∧ 0 ≤ v4.toInt ∧ v4.toInt ≤ 65535 ∧ 0 ≤ (v5 + (1 : Int32)).toInt ∧ (v5 + (1 : Int32)).toInt ≤ 16384 ∧ 16384 - (v5 + (1 : Int32)).toInt < (n : Int) by omega) hI
        · refine s_bd (zX2_worthOf v5 m (show 0 ≤ v5.toInt ∧ v5.toInt ≤ 16383 by omega) hI) (fun r4 kr14 => ?_)
          refine s_lt (fun kh15 => ?_) (fun kh15 => ?_)
          · have kc16 : (v5 + (1 : Int32)).toInt = (v5).toInt + 1 := a_addl L1 (by omega) (by omega)
            exact ih v2 v3 v4 (v5 + (1 : Int32)) m (show 0 ≤ v2.toInt ∧ v2.toInt ≤ 200 ∧ (-1 : Int) ≤ v3.toInt ∧ v3.toInt ≤ 16383 ∧ 0 ≤ v4.toInt ∧ v4.toInt ≤ 65535 ∧ 0 ≤ (v5 + (1 : Int32)).toInt ∧ (v5 + (1 : Int32)).toInt ≤ 16384 ∧ 16384 - (v5 + (1 : Int32)).toInt < (n : Int) by omega) hI
          · have kc17 : (v5 + (1 : Int32)).toInt = (v5).toInt + 1 := a_addl L1 (by omega) (by omega)
            exact ih v2 v5 (r2 >>> ((4 : Int32) &&& (31 : Int32))) (v5 + (1 : Int32)) m (show 0 ≤ v2.toInt ∧ v2.toInt ≤ 200 ∧ (-1 : Int) ≤ v5.toInt ∧ v5.toInt ≤ 16383 ∧ 0 ≤ (r2 >>> ((4 : Int32) &&& (31 : Int32))).toInt ∧ (r2 >>> ((4 : Int32) &&& (31 : Int32))).toInt ≤ 65535 ∧ 0 ≤ (v5 + (1 : Int32)).toInt ∧ (v5 + (1 : Int32)).toInt ≤ 16384 ∧ 16384 - (v5 + (1 : Int32)).toInt < (n : Int) by omega) hI
theorem zX10_quickest (x1 : Int32) (m : sm_S) (hp : 0 ≤ x1.toInt ∧ x1.toInt ≤ 200) (hI : zI m) : Sf (fun r => ((-1 : Int) ≤ r.toInt) ∧ (r.toInt ≤ 16383)) (fX10_quickest x1 m) := by
  have hfu := fuE
  unfold fX10_quickest
  have kc1 := Ln1
  have kc2 := L65535
  have kc3 := L0
  exact zX10_quickest_9 sm_fu x1 (-1 : Int32) (65535 : Int32) (0 : Int32) m (show 0 ≤ x1.toInt ∧ x1.toInt ≤ 200 ∧ (-1 : Int) ≤ (-1 : Int32).toInt ∧ (-1 : Int32).toInt ≤ 16383 ∧ 0 ≤ (65535 : Int32).toInt ∧ (65535 : Int32).toInt ≤ 65535 ∧ 0 ≤ (0 : Int32).toInt ∧ (0 : Int32).toInt ≤ 16384 ∧ 16384 - (0 : Int32).toInt < (sm_fu : Int) by omega) hI
theorem zX11_soon (x1 : Int32) (x2 : Int32) (m : sm_S) (hI : zI m) : Sf (fun r => (((-2 : Int) ≤ r.1.toInt) ∧ (r.1.toInt ≤ 4095)) ∧ zI r.2 ∧ Fr wX11_soon m r.2) (fX11_soon x1 x2 m) := by
  have hfu := fuE
  unfold fX11_soon
  refine s_bd (zX2_hasCorner x1 m hI) (fun r2 kr1 => ?_)
  replace kr1 : (0 ≤ r2.toInt) ∧ (r2.toInt ≤ 1) ∧ ((r2.toInt = 0 ∧ (x1.toInt < 0 ∨ (m.1 3 0).toInt ≤ x1.toInt)) ∨ (r2.toInt = 1 ∧ 0 ≤ x1.toInt ∧ x1.toInt < (m.1 3 0).toInt)) := kr1
  have kc2 := L0
  have kc3 : 0 ≤ (m.1 3 0).toInt ∧ (m.1 3 0).toInt ≤ 10 := hI.1 3 0
  refine s_eq (fun kh4 => ?_) (fun kh4 => ?_)
  · have kc5 := Ln1
    exact s_ret ⟨(show ((-2 : Int) ≤ (-1 : Int32).toInt) ∧ ((-1 : Int32).toInt ≤ 4095) by omega), hI, Fr.refl⟩
  · refine s_lt (fun kh6 => ?_) (fun kh6 => ?_)
    · have kc7 := Ln1
      exact s_ret ⟨(show ((-2 : Int) ≤ (-1 : Int32).toInt) ∧ ((-1 : Int32).toInt ≤ 4095) by omega), hI, Fr.refl⟩
    · have kc8 := L200
      refine s_le (fun kh9 => ?_) (fun kh9 => ?_)
      · have kc10 := L9999
        refine s_bd (zX10_explore x1 (9999 : Int32) m (show 0 ≤ x1.toInt ∧ x1.toInt ≤ 9 ∧ 0 ≤ (9999 : Int32).toInt ∧ (9999 : Int32).toInt ≤ 9999 by omega) hI) (fun m4 kr11 => ?_)
        obtain ⟨kp12, ki13, kf14⟩ := kr11
        refine s_bd (zX10_quickest x2 m4 (show 0 ≤ x2.toInt ∧ x2.toInt ≤ 200 by omega) ki13) (fun r6 kr15 => ?_)
        replace kr15 : ((-1 : Int) ≤ r6.toInt) ∧ (r6.toInt ≤ 16383) := kr15
        refine s_le (fun kh16 => ?_) (fun kh16 => ?_)
        · refine s_bd (zX5_tell r6 m4 ki13) (fun m8 kr17 => ?_)
          obtain ⟨kp18, ki19, kf20⟩ := kr17
          refine s_bd (zX10_minutesOf r6 m8 (show 0 ≤ r6.toInt ∧ r6.toInt ≤ 16383 by omega) ki19) (fun r10 kr21 => ?_)
          replace kr21 : (0 ≤ r10.toInt) ∧ (r10.toInt ≤ 4095) := kr21
          have kf22 : Fr wX11_soon m m4 := Fr.trans Fr.refl kf14 rfl
          have kf23 : Fr wX11_soon m m8 := Fr.trans kf22 kf20 rfl
          exact s_ret ⟨(show ((-2 : Int) ≤ r10.toInt) ∧ (r10.toInt ≤ 4095) by omega), ki19, kf23⟩
        · have kc24 := Ln2
          have kf25 : Fr wX11_soon m m4 := Fr.trans Fr.refl kf14 rfl
          exact s_ret ⟨(show ((-2 : Int) ≤ (-2 : Int32).toInt) ∧ ((-2 : Int32).toInt ≤ 4095) by omega), ki13, kf25⟩
      · have kc26 := Ln1
        exact s_ret ⟨(show ((-2 : Int) ≤ (-1 : Int32).toInt) ∧ ((-1 : Int32).toInt ≤ 4095) by omega), hI, Fr.refl⟩
theorem zX11_bridges_4 : ∀ (n : Nat) (v1 : Int32) (v2 : Int32) (m : sm_S), (0 ≤ v1.toInt ∧ v1.toInt ≤ 16383 ∧ 0 ≤ v2.toInt ∧ v2.toInt ≤ 14 ∧ 14 - v2.toInt < (n : Int)) → zI m → Sf (fun r => (0 ≤ r.toInt) ∧ (r.toInt ≤ 16383)) (fX11_bridges_4 n v1 v2 m) := by
  intro n
  induction n with
  | zero =>
    intro v1 v2 m hp hI
    exfalso
    omega
  | succ n ih =>
    intro v1 v2 m hp hI
    have hnn : ((n + 1 : Nat) : Int) = (n : Int) + 1 := by omega
    have hfu := fuE
    unfold fX11_bridges_4
    have kc1 : 0 ≤ (m.1 3 1).toInt ∧ (m.1 3 1).toInt ≤ 14 := hI.1 3 1
    refine s_le (fun kh2 => ?_) (fun kh2 => ?_)
    · exact s_ret (show (0 ≤ v1.toInt) ∧ (v1.toInt ≤ 16383) by omega)
    · refine s_bd (zX2_everyHedge m hI) (fun r2 kr3 => ?_)
      replace kr3 : (0 ≤ r2.toInt) ∧ (r2.toInt ≤ 16383) := kr3
      have kx4 : 0 ≤ (v2).toInt ∧ (v2).toInt < (14 : Int) := by omega
      refine s_ix kx4 ?_
      have kc5 : 0 ≤ (m.1 6 (v2).toNatClampNeg).toInt ∧ (m.1 6 (v2).toNatClampNeg).toInt ≤ 9 := hI.1 6 (v2).toNatClampNeg
      have kc6 := L1
      have kc7 := L31
      have kc8 : 0 ≤ (v2 &&& (31 : Int32)).toInt ∧ (v2 &&& (31 : Int32)).toInt ≤ ((31 : Int32)).toInt := a_andr (by omega)
      have kc9 : 0 ≤ (v2 &&& (31 : Int32)).toInt ∧ (v2 &&& (31 : Int32)).toInt ≤ (v2).toInt := a_andl (by omega)
      have kc10 : 1 ≤ ((1 : Int32) <<< (v2 &&& (31 : Int32))).toInt ∧ ((1 : Int32) <<< (v2 &&& (31 : Int32))).toInt ≤ 8192 := a_shl 13 (by decide) (by decide) (by omega) (by omega)
      have kc11 := Ln1
      have kc12 : 0 ≤ (r2 &&& (((1 : Int32) <<< (v2 &&& (31 : Int32))) ^^^ (-1 : Int32))).toInt ∧ (r2 &&& (((1 : Int32) <<< (v2 &&& (31 : Int32))) ^^^ (-1 : Int32))).toInt ≤ (r2).toInt := a_andl (by omega)
      refine s_bd (zX2_hanging (m.1 6 (v2).toNatClampNeg) (r2 &&& (((1 : Int32) <<< (v2 &&& (31 : Int32))) ^^^ (-1 : Int32))) m (show 0 ≤ (m.1 6 (v2).toNatClampNeg).toInt ∧ (m.1 6 (v2).toNatClampNeg).toInt ≤ 9 ∧ 0 ≤ (r2 &&& (((1 : Int32) <<< (v2 &&& (31 : Int32))) ^^^ (-1 : Int32))).toInt ∧ (r2 &&& (((1 : Int32) <<< (v2 &&& (31 : Int32))) ^^^ (-1 : Int32))).toInt ≤ 16383 by omega) hI) (fun r5 kr13 => ?_)
      replace kr13 : (0 ≤ r5.toInt) ∧ (r5.toInt ≤ 1023) := kr13
      refine s_ix kx4 ?_
      have kc14 : 0 ≤ (m.1 7 (v2).toNatClampNeg).toInt ∧ (m.1 7 (v2).toNatClampNeg).toInt ≤ 9 := hI.1 7 (v2).toNatClampNeg
      have kc15 : 0 ≤ ((m.1 7 (v2).toNatClampNeg) &&& (31 : Int32)).toInt ∧ ((m.1 7 (v2).toNatClampNeg) &&& (31 : Int32)).toInt ≤ ((31 : Int32)).toInt := a_andr (by omega)
      have kc16 : 0 ≤ ((m.1 7 (v2).toNatClampNeg) &&& (31 : Int32)).toInt ∧ ((m.1 7 (v2).toNatClampNeg) &&& (31 : Int32)).toInt ≤ ((m.1 7 (v2).toNatClampNeg)).toInt := a_andl (by omega)
      have kc17 : 0 ≤ (r5 >>> ((m.1 7 (v2).toNatClampNeg) &&& (31 : Int32))).toInt ∧ (r5 >>> ((m.1 7 (v2).toNatClampNeg) &&& (31 : Int32))).toInt ≤ (r5).toInt := a_shr (by omega)
      have kc18 : 0 ≤ ((r5 >>> ((m.1 7 (v2).toNatClampNeg) &&& (31 : Int32))) &&& (1 : Int32)).toInt ∧ ((r5 >>> ((m.1 7 (v2).toNatClampNeg) &&& (31 : Int32))) &&& (1 : Int32)).toInt ≤ ((1 : Int32)).toInt := a_andr (by omega)
      have kc19 : 0 ≤ ((r5 >>> ((m.1 7 (v2).toNatClampNeg) &&& (31 : Int32))) &&& (1 : Int32)).toInt ∧ ((r5 >>> ((m.1 7 (v2).toNatClampNeg) &&& (31 : Int32))) &&& (1 : Int32)).toInt ≤ ((r5 >>> ((m.1 7 (v2).toNatClampNeg) &&& (31 : Int32)))).toInt := a_andl (by omega)
      have kc20 := L0
      refine s_eq (fun kh21 => ?_) (fun kh21 => ?_)
      · have kc22 : 0 ≤ (v1 ||| ((1 : Int32) <<< (v2 &&& (31 : Int32)))).toInt ∧ (v1 ||| ((1 : Int32) <<< (v2 &&& (31 : Int32)))).toInt < 16384 := a_or 14 (by decide) (by decide) (by omega) (by omega) (by omega) (by omega)
        have kc23 : (v2 + (1 : Int32)).toInt = (v2).toInt + 1 := a_addl L1 (by omega) (by omega)
        exact ih (v1 ||| ((1 : Int32) <<< (v2 &&& (31 : Int32)))) (v2 + (1 : Int32)) m (show 0 ≤ (v1 ||| ((1 : Int32) <<< (v2 &&& (31 : Int32)))).toInt ∧ (v1 ||| ((1 : Int32) <<< (v2 &&& (31 : Int32)))).toInt ≤ 16383 ∧ 0 ≤ (v2 + (1 : Int32)).toInt ∧ (v2 + (1 : Int32)).toInt ≤ 14 ∧ 14 - (v2 + (1 : Int32)).toInt < (n : Int) by omega) hI
      · have kc24 : (v2 + (1 : Int32)).toInt = (v2).toInt + 1 := a_addl L1 (by omega) (by omega)
        exact ih v1 (v2 + (1 : Int32)) m (show 0 ≤ v1.toInt ∧ v1.toInt ≤ 16383 ∧ 0 ≤ (v2 + (1 : Int32)).toInt ∧ (v2 + (1 : Int32)).toInt ≤ 14 ∧ 14 - (v2 + (1 : Int32)).toInt < (n : Int) by omega) hI
theorem zX11_bridges (m : sm_S) (hI : zI m) : Sf (fun r => (0 ≤ r.toInt) ∧ (r.toInt ≤ 16383)) (fX11_bridges m) := by
  have hfu := fuE
  unfold fX11_bridges
  have kc1 := L0
  exact zX11_bridges_4 sm_fu (0 : Int32) (0 : Int32) m (show 0 ≤ (0 : Int32).toInt ∧ (0 : Int32).toInt ≤ 16383 ∧ 0 ≤ (0 : Int32).toInt ∧ (0 : Int32).toInt ≤ 14 ∧ 14 - (0 : Int32).toInt < (sm_fu : Int) by omega) hI
theorem zX11_reach_41 : ∀ (n : Nat) (v1 : Int32) (v2 : Int32) (v3 : Int32) (m : sm_S), ((-1 : Int) ≤ v1.toInt ∧ v1.toInt ≤ 13 ∧ 0 ≤ v2.toInt ∧ v2.toInt ≤ 16383 ∧ 0 ≤ v3.toInt ∧ v3.toInt ≤ 14 ∧ 14 - v3.toInt < (n : Int)) → zI m → Sf (fun r => (0 ≤ r.toInt) ∧ (r.toInt ≤ 1023)) (fX11_reach_41 n v1 v2 v3 m) := by
  intro n
  induction n with
  | zero =>
    intro v1 v2 v3 m hp hI
    exfalso
    omega
  | succ n ih =>
    intro v1 v2 v3 m hp hI
    have hnn : ((n + 1 : Nat) : Int) = (n : Int) + 1 := by omega
    have hfu := fuE
    unfold fX11_reach_41
    have kc1 : 0 ≤ (m.1 3 1).toInt ∧ (m.1 3 1).toInt ≤ 14 := hI.1 3 1
    refine s_le (fun kh2 => ?_) (fun kh2 => ?_)
    · have kc3 : 0 ≤ (m.1 16 0).toInt ∧ (m.1 16 0).toInt ≤ 9 := hI.1 16 0
      refine s_bd (zX2_hanging (m.1 16 0) v2 m (show 0 ≤ (m.1 16 0).toInt ∧ (m.1 16 0).toInt ≤ 9 ∧ 0 ≤ v2.toInt ∧ v2.toInt ≤ 16383 by omega) hI) (fun r2 kr4 => ?_)
      replace kr4 : (0 ≤ r2.toInt) ∧ (r2.toInt ≤ 1023) := kr4
      exact s_ret (show (0 ≤ r2.toInt) ∧ (r2.toInt ≤ 1023) by omega)
    · refine s_eq (fun kh5 => ?_) (fun kh5 => ?_)
      · have kc6 : (v3 + (1 : Int32)).toInt = (v3).toInt + 1 := a_addl L1 (by omega) (by omega)
        exact ih v1 v2 (v3 + (1 : Int32)) m (show (-1 : Int) ≤ v1.toInt ∧ v1.toInt ≤ 13 ∧ 0 ≤ v2.toInt ∧ v2.toInt ≤ 16383 ∧ 0 ≤ (v3 + (1 : Int32)).toInt ∧ (v3 + (1 : Int32)).toInt ≤ 14 ∧ 14 - (v3 + (1 : Int32)).toInt < (n : Int) by omega) hI
      · refine s_bd (zX6_isFresh v3 m (show 0 ≤ v3.toInt ∧ v3.toInt ≤ 13 by omega) hI) (fun r4 kr7 => ?_)
        replace kr7 : (0 ≤ r4.toInt) ∧ (r4.toInt ≤ 1) := kr7
        have kc8 := L0
        refine s_eq (fun kh9 => ?_) (fun kh9 => ?_)
        · have kc10 : (v3 + (1 : Int32)).toInt = (v3).toInt + 1 := a_addl L1 (by omega) (by omega)
          exact ih v1 v2 (v3 + (1 : Int32)) m (show (-1 : Int) ≤ v1.toInt ∧ v1.toInt ≤ 13 ∧ 0 ≤ v2.toInt ∧ v2.toInt ≤ 16383 ∧ 0 ≤ (v3 + (1 : Int32)).toInt ∧ (v3 + (1 : Int32)).toInt ≤ 14 ∧ 14 - (v3 + (1 : Int32)).toInt < (n : Int) by omega) hI
        · have kc11 := L1
          have kc12 := L31
          have kc13 : 0 ≤ (v3 &&& (31 : Int32)).toInt ∧ (v3 &&& (31 : Int32)).toInt ≤ ((31 : Int32)).toInt := a_andr (by omega)
          have kc14 : 0 ≤ (v3 &&& (31 : Int32)).toInt ∧ (v3 &&& (31 : Int32)).toInt ≤ (v3).toInt := a_andl (by omega)
          have kc15 : 1 ≤ ((1 : Int32) <<< (v3 &&& (31 : Int32))).toInt ∧ ((1 : Int32) <<< (v3 &&& (31 : Int32))).toInt ≤ 8192 := a_shl 13 (by decide) (by decide) (by omega) (by omega)
          have kc16 : 0 ≤ (v2 ||| ((1 : Int32) <<< (v3 &&& (31 : Int32)))).toInt ∧ (v2 ||| ((1 : Int32) <<< (v3 &&& (31 : Int32)))).toInt < 16384 := a_or 14 (by decide) (by decide) (by omega) (by omega) (by omega) (by omega)
          have kc17 : (v3 + (1 : Int32)).toInt = (v3).toInt + 1 := a_addl L1 (by omega) (by omega)
          exact ih v1 (v2 ||| ((1 : Int32) <<< (v3 &&& (31 : Int32)))) (v3 + (1 : Int32)) m (show (-1 : Int) ≤ v1.toInt ∧ v1.toInt ≤ 13 ∧ 0 ≤ (v2 ||| ((1 : Int32) <<< (v3 &&& (31 : Int32)))).toInt ∧ (v2 ||| ((1 : Int32) <<< (v3 &&& (31 : Int32)))).toInt ≤ 16383 ∧ 0 ≤ (v3 + (1 : Int32)).toInt ∧ (v3 + (1 : Int32)).toInt ≤ 14 ∧ 14 - (v3 + (1 : Int32)).toInt < (n : Int) by omega) hI
