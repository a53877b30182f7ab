theorem zX11_next (m : sm_S) (hI : zI m) : Sf (fun r => (((-2 : Int) ≤ r.1.toInt) ∧ (r.1.toInt ≤ 13)) ∧ zI r.2 ∧ Fr wX11_next m r.2) (fX11_next m) := by
  have hfu := fuE
  unfold fX11_next
  refine s_bd (zX0_findWays m hI) (fun r2 kr1 => ?_)
  obtain ⟨kp2, ki3, kf4⟩ := kr1
  have kc5 := L0
  refine s_eq (fun kh6 => ?_) (fun kh6 => ?_)
  · have kc7 := Ln2
    have kf8 : Fr wX11_next m r2.2 := Fr.trans Fr.refl kf4 rfl
    exact s_ret ⟨(show ((-2 : Int) ≤ (-2 : Int32).toInt) ∧ ((-2 : Int32).toInt ≤ 13) by omega), ki3, kf8⟩
  · have kc9 : 0 ≤ (r2.2.1 3 1).toInt ∧ (r2.2.1 3 1).toInt ≤ 14 := ki3.1 3 1
    have kc10 : (r2.2.1 3 1).toInt = (m.1 3 1).toInt := congrArg Int32.toInt (kf4 3 1 rfl)
    have kc11 : 0 ≤ (m.1 3 1).toInt ∧ (m.1 3 1).toInt ≤ 14 := hI.1 3 1
    refine s_eq (fun kh12 => ?_) (fun kh12 => ?_)
    · have kc13 := Ln2
      have kf14 : Fr wX11_next m r2.2 := Fr.trans Fr.refl kf4 rfl
      exact s_ret ⟨(show ((-2 : Int) ≤ (-2 : Int32).toInt) ∧ ((-2 : Int32).toInt ≤ 13) by omega), ki3, kf14⟩
    · have kc15 := L4097
      have kf16 : Fr wX11_next m r2.2 := Fr.trans Fr.refl kf4 rfl
      exact zX11_next_38 m sm_fu (0 : Int32) (4097 : Int32) (0 : Int32) r2.2 (show 0 ≤ (0 : Int32).toInt ∧ (0 : Int32).toInt ≤ 13 ∧ 0 ≤ (4097 : Int32).toInt ∧ (4097 : Int32).toInt ≤ 4097 ∧ 0 ≤ (0 : Int32).toInt ∧ (0 : Int32).toInt ≤ 14 ∧ 14 - (0 : Int32).toInt < (sm_fu : Int) by omega) ki3 kf16
theorem zX0_liesOf_5 : ∀ (n : Nat) (v2 : Int32) (v3 : Int32) (v4 : Int32) (m : sm_S), (0 ≤ v2.toInt ∧ v2.toInt ≤ 4095 ∧ 0 ≤ v3.toInt ∧ v3.toInt ≤ 4095 ∧ 0 ≤ v4.toInt ∧ v4.toInt ≤ 12 ∧ 12 - v4.toInt < (n : Int)) → zI m → Sf (fun r => (0 ≤ r.toInt) ∧ (r.toInt ≤ 4095)) (fX0_liesOf_5 n v2 v3 v4 m) := by
  intro n
  induction n with
  | zero =>
    intro v2 v3 v4 m hp hI
    exfalso
    omega
  | succ n ih =>
    intro v2 v3 v4 m hp hI
    have hnn : ((n + 1 : Nat) : Int) = (n : Int) + 1 := by omega
    have hfu := fuE
    unfold fX0_liesOf_5
    have kc1 : 0 ≤ (m.1 51 0).toInt ∧ (m.1 51 0).toInt ≤ 12 := hI.1 51 0
    refine s_le (fun kh2 => ?_) (fun kh2 => ?_)
    · exact s_ret (show (0 ≤ v3.toInt) ∧ (v3.toInt ≤ 4095) by omega)
    · refine s_bd (zX0_isLie v2 v4 m (show 0 ≤ v2.toInt ∧ v2.toInt ≤ 4095 ∧ 0 ≤ v4.toInt ∧ v4.toInt ≤ 11 by omega) hI) (fun r2 kr3 => ?_)
      replace kr3 : (0 ≤ r2.toInt) ∧ (r2.toInt ≤ 1) := kr3
      have kc4 := L0
      refine s_eq (fun kh5 => ?_) (fun kh5 => ?_)
      · have kc6 : (v4 + (1 : Int32)).toInt = (v4).toInt + 1 := a_addl L1 (by omega) (by omega)
        exact ih v2 v3 (v4 + (1 : Int32)) m (show 0 ≤ v2.toInt ∧ v2.toInt ≤ 4095 ∧ 0 ≤ v3.toInt ∧ v3.toInt ≤ 4095 ∧ 0 ≤ (v4 + (1 : Int32)).toInt ∧ (v4 + (1 : Int32)).toInt ≤ 12 ∧ 12 - (v4 + (1 : Int32)).toInt < (n : Int) by omega) hI
      · have kc7 := L1
        have kc8 := L31
        have kc9 : 0 ≤ (v4 &&& (31 : Int32)).toInt ∧ (v4 &&& (31 : Int32)).toInt ≤ ((31 : Int32)).toInt := a_andr (by omega)
        have kc10 : 0 ≤ (v4 &&& (31 : Int32)).toInt ∧ (v4 &&& (31 : Int32)).toInt ≤ (v4).toInt := a_andl (by omega)
        have kc11 : 1 ≤ ((1 : Int32) <<< (v4 &&& (31 : Int32))).toInt ∧ ((1 : Int32) <<< (v4 &&& (31 : Int32))).toInt ≤ 2048 := a_shl 11 (by decide) (by decide) (by omega) (by omega)
        have kc12 : 0 ≤ (v3 ||| ((1 : Int32) <<< (v4 &&& (31 : Int32)))).toInt ∧ (v3 ||| ((1 : Int32) <<< (v4 &&& (31 : Int32)))).toInt < 4096 := a_or 12 (by decide) (by decide) (by omega) (by omega) (by omega) (by omega)
        have kc13 : (v4 + (1 : Int32)).toInt = (v4).toInt + 1 := a_addl L1 (by omega) (by omega)
        exact ih v2 (v3 ||| ((1 : Int32) <<< (v4 &&& (31 : Int32)))) (v4 + (1 : Int32)) m (show 0 ≤ v2.toInt ∧ v2.toInt ≤ 4095 ∧ 0 ≤ (v3 ||| ((1 : Int32) <<< (v4 &&& (31 : Int32)))).toInt ∧ (v3 ||| ((1 : Int32) <<< (v4 &&& (31 : Int32)))).toInt ≤ 4095 ∧ 0 ≤ (v4 + (1 : Int32)).toInt ∧ (v4 + (1 : Int32)).toInt ≤ 12 ∧ 12 - (v4 + (1 : Int32)).toInt < (n : Int) by omega) hI
theorem zX0_liesOf (x1 : Int32) (m : sm_S) (hp : 0 ≤ x1.toInt ∧ x1.toInt ≤ 4095) (hI : zI m) : Sf (fun r => (0 ≤ r.toInt) ∧ (r.toInt ≤ 4095)) (fX0_liesOf x1 m) := by
  have hfu := fuE
  unfold fX0_liesOf
  have kc1 := L0
  exact zX0_liesOf_5 sm_fu x1 (0 : Int32) (0 : Int32) m (show 0 ≤ x1.toInt ∧ x1.toInt ≤ 4095 ∧ 0 ≤ (0 : Int32).toInt ∧ (0 : Int32).toInt ≤ 4095 ∧ 0 ≤ (0 : Int32).toInt ∧ (0 : Int32).toInt ≤ 12 ∧ 12 - (0 : Int32).toInt < (sm_fu : Int) by omega) hI
theorem zX0_fewestLies_7 : ∀ (n : Nat) (v2 : Int32) (v3 : Int32) (m : sm_S), (0 ≤ v2.toInt ∧ v2.toInt ≤ 4095 ∧ 0 ≤ v3.toInt ∧ v3.toInt ≤ 4096 ∧ 4096 - v3.toInt < (n : Int)) → zI m → Sf (fun r => (0 ≤ r.toInt) ∧ (r.toInt ≤ 4095)) (fX0_fewestLies_7 n v2 v3 m) := by
  intro n
  induction n with
  | zero =>
    intro v2 v3 m hp hI
    exfalso
    omega
  | succ n ih =>
    intro v2 v3 m hp hI
    have hnn : ((n + 1 : Nat) : Int) = (n : Int) + 1 := by omega
    have hfu := fuE
    unfold fX0_fewestLies_7
    have kc1 := L4096
    refine s_le (fun kh2 => ?_) (fun kh2 => ?_)
    · exact s_ret (show (0 ≤ v2.toInt) ∧ (v2.toInt ≤ 4095) by omega)
    · refine s_bd (zX0_liesOf v3 m (show 0 ≤ v3.toInt ∧ v3.toInt ≤ 4095 by omega) hI) (fun r4 kr3 => ?_)
      replace kr3 : (0 ≤ r4.toInt) ∧ (r4.toInt ≤ 4095) := kr3
      refine s_bd (zJ6_bitCount_0f7a4 r4 m (show 0 ≤ r4.toInt ∧ r4.toInt ≤ 16383 by omega) hI) (fun r6 kr4 => ?_)
      replace kr4 : (0 ≤ r6.toInt) ∧ (r6.toInt ≤ 63) := kr4
      refine s_bd (zJ6_bitCount_0f7a4 v2 m (show 0 ≤ v2.toInt ∧ v2.toInt ≤ 16383 by omega) hI) (fun r8 kr5 => ?_)
      replace kr5 : (0 ≤ r8.toInt) ∧ (r8.toInt ≤ 63) := kr5
      have kc6 : (r6 - r8).toInt = (r6).toInt - (r8).toInt := a_sub (by omega) (by omega)
      have kc7 := L0
      refine s_lt (fun kh8 => ?_) (fun kh8 => ?_)
      · have kc9 : (v3 + (1 : Int32)).toInt = (v3).toInt + 1 := a_addl L1 (by omega) (by omega)
        exact ih r4 (v3 + (1 : Int32)) m (show 0 ≤ r4.toInt ∧ r4.toInt ≤ 4095 ∧ 0 ≤ (v3 + (1 : Int32)).toInt ∧ (v3 + (1 : Int32)).toInt ≤ 4096 ∧ 4096 - (v3 + (1 : Int32)).toInt < (n : Int) by omega) hI
      · refine s_eq (fun kh10 => ?_) (fun kh10 => ?_)
        · refine s_le (fun kh11 => ?_) (fun kh11 => ?_)
          · have kc12 : (v3 + (1 : Int32)).toInt = (v3).toInt + 1 := a_addl L1 (by omega) (by omega)
            exact ih v2 (v3 + (1 : Int32)) m (show 0 ≤ v2.toInt ∧ v2.toInt ≤ 4095 ∧ 0 ≤ (v3 + (1 : Int32)).toInt ∧ (v3 + (1 : Int32)).toInt ≤ 4096 ∧ 4096 - (v3 + (1 : Int32)).toInt < (n : Int) by omega) hI
          · have kc13 : (v3 + (1 : Int32)).toInt = (v3).toInt + 1 := a_addl L1 (by omega) (by omega)
            exact ih r4 (v3 + (1 : Int32)) m (show 0 ≤ r4.toInt ∧ r4.toInt ≤ 4095 ∧ 0 ≤ (v3 + (1 : Int32)).toInt ∧ (v3 + (1 : Int32)).toInt ≤ 4096 ∧ 4096 - (v3 + (1 : Int32)).toInt < (n : Int) by omega) hI
        · have kc14 : (v3 + (1 : Int32)).toInt = (v3).toInt + 1 := a_addl L1 (by omega) (by omega)
          exact ih v2 (v3 + (1 : Int32)) m (show 0 ≤ v2.toInt ∧ v2.toInt ≤ 4095 ∧ 0 ≤ (v3 + (1 : Int32)).toInt ∧ (v3 + (1 : Int32)).toInt ≤ 4096 ∧ 4096 - (v3 + (1 : Int32)).toInt < (n : Int) by omega) hI
theorem zX0_fewestLies (m : sm_S) (hI : zI m) : Sf (fun r => (0 ≤ r.toInt) ∧ (r.toInt ≤ 4095)) (fX0_fewestLies m) := by
  have hfu := fuE
  unfold fX0_fewestLies
  refine s_bd (zX0_all m hI) (fun r2 kr1 => ?_)
  replace kr1 : (0 ≤ r2.toInt) ∧ (r2.toInt ≤ 4095) := kr1
  have kc2 := L0
  exact zX0_fewestLies_7 sm_fu r2 (0 : Int32) m (show 0 ≤ r2.toInt ∧ r2.toInt ≤ 4095 ∧ 0 ≤ (0 : Int32).toInt ∧ (0 : Int32).toInt ≤ 4096 ∧ 4096 - (0 : Int32).toInt < (sm_fu : Int) by omega) hI
theorem zX11_lies (m : sm_S) (hI : zI m) : Sf (fun r => ((0 ≤ r.1.toInt) ∧ (r.1.toInt ≤ 63)) ∧ zI r.2 ∧ Fr wX11_lies m r.2) (fX11_lies m) := by
  have hfu := fuE
  unfold fX11_lies
  refine s_bd (zX0_fewestLies m hI) (fun r2 kr1 => ?_)
  replace kr1 : (0 ≤ r2.toInt) ∧ (r2.toInt ≤ 4095) := kr1
  refine s_bd (zX5_tell r2 m hI) (fun m4 kr2 => ?_)
  obtain ⟨kp3, ki4, kf5⟩ := kr2
  refine s_bd (zJ6_bitCount_0f7a4 r2 m4 (show 0 ≤ r2.toInt ∧ r2.toInt ≤ 16383 by omega) ki4) (fun r6 kr6 => ?_)
  replace kr6 : (0 ≤ r6.toInt) ∧ (r6.toInt ≤ 63) := kr6
  have kf7 : Fr wX11_lies m m4 := Fr.trans Fr.refl kf5 rfl
  exact s_ret ⟨(show (0 ≤ r6.toInt) ∧ (r6.toInt ≤ 63) by omega), ki4, kf7⟩
theorem zX0_hasWay_2 : ∀ (n : Nat) (v2 : Int32) (v3 : Int32) (m : sm_S), (0 ≤ v3.toInt ∧ v3.toInt ≤ 4096 ∧ 4096 - v3.toInt < (n : Int)) → zI m → Sf (fun r => (0 ≤ r.toInt) ∧ (r.toInt ≤ 1)) (fX0_hasWay_2 n v2 v3 m) := by
  intro n
  induction n with
  | zero =>
    intro v2 v3 m hp hI
    exfalso
    omega
  | succ n ih =>
    intro v2 v3 m hp hI
    have hnn : ((n + 1 : Nat) : Int) = (n : Int) + 1 := by omega
    have hfu := fuE
    unfold fX0_hasWay_2
    have kc1 := L4096
    refine s_le (fun kh2 => ?_) (fun kh2 => ?_)
    · have kc3 := L0
      exact s_ret (show (0 ≤ (0 : Int32).toInt) ∧ ((0 : Int32).toInt ≤ 1) by omega)
    · refine s_bd (zX0_allHold v3 v2 m (show 0 ≤ v3.toInt ∧ v3.toInt ≤ 4095 by omega) hI) (fun r2 kr4 => ?_)
      replace kr4 : (0 ≤ r2.toInt) ∧ (r2.toInt ≤ 1) := kr4
      have kc5 := L0
      refine s_eq (fun kh6 => ?_) (fun kh6 => ?_)
      · have kc7 : (v3 + (1 : Int32)).toInt = (v3).toInt + 1 := a_addl L1 (by omega) (by omega)
        exact ih v2 (v3 + (1 : Int32)) m (show 0 ≤ (v3 + (1 : Int32)).toInt ∧ (v3 + (1 : Int32)).toInt ≤ 4096 ∧ 4096 - (v3 + (1 : Int32)).toInt < (n : Int) by omega) hI
      · have kc8 := L1
        exact s_ret (show (0 ≤ (1 : Int32).toInt) ∧ ((1 : Int32).toInt ≤ 1) by omega)
theorem zX0_hasWay (x1 : Int32) (m : sm_S) (hI : zI m) : Sf (fun r => (0 ≤ r.toInt) ∧ (r.toInt ≤ 1)) (fX0_hasWay x1 m) := by
  have hfu := fuE
  unfold fX0_hasWay
  have kc1 := L0
  exact zX0_hasWay_2 sm_fu x1 (0 : Int32) m (show 0 ≤ (0 : Int32).toInt ∧ (0 : Int32).toInt ≤ 4096 ∧ 4096 - (0 : Int32).toInt < (sm_fu : Int) by omega) hI
theorem zX0_firstWithoutWays_2 : ∀ (n : Nat) (v2 : Int32) (m : sm_S), (0 ≤ v2.toInt ∧ v2.toInt ≤ 12 ∧ 12 - v2.toInt < (n : Int)) → zI m → Sf (fun r => ((-1 : Int) ≤ r.toInt) ∧ (r.toInt ≤ 11)) (fX0_firstWithoutWays_2 n v2 m) := by
  intro n
  induction n with
  | zero =>
    intro v2 m hp hI
    exfalso
    omega
  | succ n ih =>
    intro v2 m hp hI
    have hnn : ((n + 1 : Nat) : Int) = (n : Int) + 1 := by omega
    have hfu := fuE
    unfold fX0_firstWithoutWays_2
    have kc1 : 0 ≤ (m.1 51 0).toInt ∧ (m.1 51 0).toInt ≤ 12 := hI.1 51 0
    refine s_le (fun kh2 => ?_) (fun kh2 => ?_)
    · have kc3 := Ln1
      exact s_ret (show ((-1 : Int) ≤ (-1 : Int32).toInt) ∧ ((-1 : Int32).toInt ≤ 11) by omega)
    · refine s_bd (zX0_hasWay (((2 : Int32) <<< (v2 &&& (31 : Int32))) - (1 : Int32)) m hI) (fun r2 kr4 => ?_)
      replace kr4 : (0 ≤ r2.toInt) ∧ (r2.toInt ≤ 1) := kr4
      have kc5 := L0
      refine s_eq (fun kh6 => ?_) (fun kh6 => ?_)
      · exact s_ret (show ((-1 : Int) ≤ v2.toInt) ∧ (v2.toInt ≤ 11) by omega)
      · have kc7 : (v2 + (1 : Int32)).toInt = (v2).toInt + 1 := a_addl L1 (by omega) (by omega)
        exact ih (v2 + (1 : Int32)) m (show 0 ≤ (v2 + (1 : Int32)).toInt ∧ (v2 + (1 : Int32)).toInt ≤ 12 ∧ 12 - (v2 + (1 : Int32)).toInt < (n : Int) by omega) hI
theorem zX0_firstWithoutWays (m : sm_S) (hI : zI m) : Sf (fun r => ((-1 : Int) ≤ r.toInt) ∧ (r.toInt ≤ 11)) (fX0_firstWithoutWays m) := by
  have hfu := fuE
  unfold fX0_firstWithoutWays
  have kc1 := L0
  exact zX0_firstWithoutWays_2 sm_fu (0 : Int32) m (show 0 ≤ (0 : Int32).toInt ∧ (0 : Int32).toInt ≤ 12 ∧ 12 - (0 : Int32).toInt < (sm_fu : Int) by omega) hI
theorem zX0_firstAgainst_2 : ∀ (n : Nat) (v2 : Int32) (v3 : Int32) (m : sm_S), (0 ≤ v2.toInt ∧ v2.toInt ≤ 11 ∧ 0 ≤ v3.toInt ∧ v3.toInt ≤ 11 ∧ 11 - v3.toInt < (n : Int)) → zI m → Sf (fun r => ((-1 : Int) ≤ r.toInt) ∧ (r.toInt ≤ 10)) (fX0_firstAgainst_2 n v2 v3 m) := by
  intro n
  induction n with
  | zero =>
    intro v2 v3 m hp hI
    exfalso
    omega
  | succ n ih =>
    intro v2 v3 m hp hI
    have hnn : ((n + 1 : Nat) : Int) = (n : Int) + 1 := by omega
    have hfu := fuE
    unfold fX0_firstAgainst_2
    refine s_le (fun kh1 => ?_) (fun kh1 => ?_)
    · have kc2 := Ln1
      exact s_ret (show ((-1 : Int) ≤ (-1 : Int32).toInt) ∧ ((-1 : Int32).toInt ≤ 10) by omega)
    · refine s_bd (zX0_hasWay (((1 : Int32) <<< (v3 &&& (31 : Int32))) ||| ((1 : Int32) <<< (v2 &&& (31 : Int32)))) m hI) (fun r2 kr3 => ?_)
      replace kr3 : (0 ≤ r2.toInt) ∧ (r2.toInt ≤ 1) := kr3
      have kc4 := L0
      refine s_eq (fun kh5 => ?_) (fun kh5 => ?_)
      · exact s_ret (show ((-1 : Int) ≤ v3.toInt) ∧ (v3.toInt ≤ 10) by omega)
      · have kc6 : (v3 + (1 : Int32)).toInt = (v3).toInt + 1 := a_addl L1 (by omega) (by omega)
        exact ih v2 (v3 + (1 : Int32)) m (show 0 ≤ v2.toInt ∧ v2.toInt ≤ 11 ∧ 0 ≤ (v3 + (1 : Int32)).toInt ∧ (v3 + (1 : Int32)).toInt ≤ 11 ∧ 11 - (v3 + (1 : Int32)).toInt < (n : Int) by omega) hI
theorem zX0_firstAgainst (x1 : Int32) (m : sm_S) (hp : 0 ≤ x1.toInt ∧ x1.toInt ≤ 11) (hI : zI m) : Sf (fun r => ((-1 : Int) ≤ r.toInt) ∧ (r.toInt ≤ 10)) (fX0_firstAgainst x1 m) := by
  have hfu := fuE
  unfold fX0_firstAgainst
  have kc1 := L0
  exact zX0_firstAgainst_2 sm_fu x1 (0 : Int32) m (show 0 ≤ x1.toInt ∧ x1.toInt ≤ 11 ∧ 0 ≤ (0 : Int32).toInt ∧ (0 : Int32).toInt ≤ 11 ∧ 11 - (0 : Int32).toInt < (sm_fu : Int) by omega) hI
theorem zX11_quarrel (m : sm_S) (hI : zI m) : Sf (fun r => (((-2 : Int) ≤ r.1.toInt) ∧ (r.1.toInt ≤ 11)) ∧ zI r.2 ∧ Fr wX11_quarrel m r.2) (fX11_quarrel m) := by
  have hfu := fuE
  unfold fX11_quarrel
  refine s_bd (zX0_firstWithoutWays m hI) (fun r2 kr1 => ?_)
  replace kr1 : ((-1 : Int) ≤ r2.toInt) ∧ (r2.toInt ≤ 11) := kr1
  have kc2 := L0
  refine s_le (fun kh3 => ?_) (fun kh3 => ?_)
  · refine s_bd (zX0_firstAgainst r2 m (show 0 ≤ r2.toInt ∧ r2.toInt ≤ 11 by omega) hI) (fun r4 kr4 => ?_)
    replace kr4 : ((-1 : Int) ≤ r4.toInt) ∧ (r4.toInt ≤ 10) := kr4
    refine s_bd (zX5_tell r4 m hI) (fun m6 kr5 => ?_)
    obtain ⟨kp6, ki7, kf8⟩ := kr5
    have kf9 : Fr wX11_quarrel m m6 := Fr.trans Fr.refl kf8 rfl
    exact s_ret ⟨(show ((-2 : Int) ≤ r2.toInt) ∧ (r2.toInt ≤ 11) by omega), ki7, kf9⟩
  · have kc10 := Ln2
    exact s_ret ⟨(show ((-2 : Int) ≤ (-2 : Int32).toInt) ∧ ((-2 : Int32).toInt ≤ 11) by omega), hI, Fr.refl⟩
theorem zX6_copyFrom_i1_18 (m0 : sm_S) : ∀ (n : Nat) (v2 : Int32) (m : sm_S), (0 ≤ v2.toInt ∧ v2.toInt ≤ 14 ∧ 14 - v2.toInt < (n : Int)) → zI m → Fr wX6_copyFrom_i1 m0 m → Sf (fun r => (True) ∧ zI r ∧ Fr wX6_copyFrom_i1 m0 r) (fX6_copyFrom_i1_18 n v2 m) := by
  intro n
  induction n with
  | zero =>
    intro v2 m hp hI hF
    exfalso
    omega
  | succ n ih =>
    intro v2 m hp hI hF
    have hnn : ((n + 1 : Nat) : Int) = (n : Int) + 1 := by omega
    have hfu := fuE
    unfold fX6_copyFrom_i1_18
    have kc1 := L14
    refine s_le (fun kh2 => ?_) (fun kh2 => ?_)
    · exact s_ret ⟨trivial, hI, hF⟩
    · have kx3 : 0 ≤ (v2).toInt ∧ (v2).toInt < (14 : Int) := by omega
      refine s_ix kx3 ?_
      refine s_ix kx3 ?_
      have kc4 : (v2 + (1 : Int32)).toInt = (v2).toInt + 1 := a_addl L1 (by omega) (by omega)
      have ki5 : zI (sm_w1 m 67 (v2).toNatClampNeg (m.1 17 (v2).toNatClampNeg)) := zI.w hI rfl (rg _)
      have kf6 : Fr wX6_copyFrom_i1 m0 (sm_w1 m 67 (v2).toNatClampNeg (m.1 17 (v2).toNatClampNeg)) := Fr.w hF rfl
      exact ih (v2 + (1 : Int32)) (sm_w1 m 67 (v2).toNatClampNeg (m.1 17 (v2).toNatClampNeg)) (show 0 ≤ (v2 + (1 : Int32)).toInt ∧ (v2 + (1 : Int32)).toInt ≤ 14 ∧ 14 - (v2 + (1 : Int32)).toInt < (n : Int) by omega) ki5 kf6
theorem zX6_copyFrom_i1 (m : sm_S) (hI : zI m) : Sf (fun r => (True) ∧ zI r ∧ Fr wX6_copyFrom_i1 m r) (fX6_copyFrom_i1 m) := by
  have hfu := fuE
  unfold fX6_copyFrom_i1
  have kc1 := L0
  have kc2 : 0 ≤ (m.1 16 0).toInt ∧ (m.1 16 0).toInt ≤ 9 := hI.1 16 0
  have ki3 : zI (sm_w1 m 66 0 (m.1 16 0)) := zI.w hI rfl (show 0 ≤ ((m.1 16 0)).toInt ∧ ((m.1 16 0)).toInt ≤ 9 by omega)
  have ki4 : zI (sm_w1 (sm_w1 m 66 0 (m.1 16 0)) 66 1 (m.1 16 1)) := zI.w ki3 rfl (rg _)
  have kf5 : Fr wX6_copyFrom_i1 m (sm_w1 m 66 0 (m.1 16 0)) := Fr.w Fr.refl rfl
  have kf6 : Fr wX6_copyFrom_i1 m (sm_w1 (sm_w1 m 66 0 (m.1 16 0)) 66 1 (m.1 16 1)) := Fr.w kf5 rfl
  exact zX6_copyFrom_i1_18 m sm_fu (0 : Int32) (sm_w1 (sm_w1 m 66 0 (m.1 16 0)) 66 1 (m.1 16 1)) (show 0 ≤ (0 : Int32).toInt ∧ (0 : Int32).toInt ≤ 14 ∧ 14 - (0 : Int32).toInt < (sm_fu : Int) by omega) ki4 kf6
theorem zX6_copyFrom_i2_18 (m0 : sm_S) : ∀ (n : Nat) (v2 : Int32) (m : sm_S), (0 ≤ v2.toInt ∧ v2.toInt ≤ 14 ∧ 14 - v2.toInt < (n : Int)) → zI m → Fr wX6_copyFrom_i2 m0 m → Sf (fun r => (True) ∧ zI r ∧ Fr wX6_copyFrom_i2 m0 r) (fX6_copyFrom_i2_18 n v2 m) := by
  intro n
  induction n with
  | zero =>
    intro v2 m hp hI hF
    exfalso
    omega
  | succ n ih =>
    intro v2 m hp hI hF
    have hnn : ((n + 1 : Nat) : Int) = (n : Int) + 1 := by omega
    have hfu := fuE
    unfold fX6_copyFrom_i2_18
    have kc1 := L14
    refine s_le (fun kh2 => ?_) (fun kh2 => ?_)
    · exact s_ret ⟨trivial, hI, hF⟩
    · have kx3 : 0 ≤ (v2).toInt ∧ (v2).toInt < (14 : Int) := by omega
      refine s_ix kx3 ?_
      refine s_ix kx3 ?_
      have kc4 : (v2 + (1 : Int32)).toInt = (v2).toInt + 1 := a_addl L1 (by omega) (by omega)
      have ki5 : zI (sm_w1 m 69 (v2).toNatClampNeg (m.1 17 (v2).toNatClampNeg)) := zI.w hI rfl (rg _)
      have kf6 : Fr wX6_copyFrom_i2 m0 (sm_w1 m 69 (v2).toNatClampNeg (m.1 17 (v2).toNatClampNeg)) := Fr.w hF rfl
      exact ih (v2 + (1 : Int32)) (sm_w1 m 69 (v2).toNatClampNeg (m.1 17 (v2).toNatClampNeg)) (show 0 ≤ (v2 + (1 : Int32)).toInt ∧ (v2 + (1 : Int32)).toInt ≤ 14 ∧ 14 - (v2 + (1 : Int32)).toInt < (n : Int) by omega) ki5 kf6
theorem zX6_copyFrom_i2 (m : sm_S) (hI : zI m) : Sf (fun r => (True) ∧ zI r ∧ Fr wX6_copyFrom_i2 m r) (fX6_copyFrom_i2 m) := by
  have hfu := fuE
  unfold fX6_copyFrom_i2
  have kc1 := L0
  have kc2 : 0 ≤ (m.1 16 0).toInt ∧ (m.1 16 0).toInt ≤ 9 := hI.1 16 0
  have ki3 : zI (sm_w1 m 68 0 (m.1 16 0)) := zI.w hI rfl (show 0 ≤ ((m.1 16 0)).toInt ∧ ((m.1 16 0)).toInt ≤ 9 by omega)
  have ki4 : zI (sm_w1 (sm_w1 m 68 0 (m.1 16 0)) 68 1 (m.1 16 1)) := zI.w ki3 rfl (rg _)
  have kf5 : Fr wX6_copyFrom_i2 m (sm_w1 m 68 0 (m.1 16 0)) := Fr.w Fr.refl rfl
  have kf6 : Fr wX6_copyFrom_i2 m (sm_w1 (sm_w1 m 68 0 (m.1 16 0)) 68 1 (m.1 16 1)) := Fr.w kf5 rfl
  exact zX6_copyFrom_i2_18 m sm_fu (0 : Int32) (sm_w1 (sm_w1 m 68 0 (m.1 16 0)) 68 1 (m.1 16 1)) (show 0 ≤ (0 : Int32).toInt ∧ (0 : Int32).toInt ≤ 14 ∧ 14 - (0 : Int32).toInt < (sm_fu : Int) by omega) ki4 kf6
theorem zX6_copyFrom_i3_18 (m0 : sm_S) : ∀ (n : Nat) (v2 : Int32) (m : sm_S), (0 ≤ v2.toInt ∧ v2.toInt ≤ 14 ∧ 14 - v2.toInt < (n : Int)) → zI m → Fr wX6_copyFrom_i3 m0 m → Sf (fun r => (True) ∧ zI r ∧ Fr wX6_copyFrom_i3 m0 r) (fX6_copyFrom_i3_18 n v2 m) := by
  intro n
  induction n with
  | zero =>
    intro v2 m hp hI hF
    exfalso
    omega
  | succ n ih =>
    intro v2 m hp hI hF
    have hnn : ((n + 1 : Nat) : Int) = (n : Int) + 1 := by omega
    have hfu := fuE
    unfold fX6_copyFrom_i3_18
    have kc1 := L14
    refine s_le (fun kh2 => ?_) (fun kh2 => ?_)
    · exact s_ret ⟨trivial, hI, hF⟩
    · have kx3 : 0 ≤ (v2).toInt ∧ (v2).toInt < (14 : Int) := by omega
      refine s_ix kx3 ?_
      refine s_ix kx3 ?_
      have kc4 : (v2 + (1 : Int32)).toInt = (v2).toInt + 1 := a_addl L1 (by omega) (by omega)
      have ki5 : zI (sm_w1 m 71 (v2).toNatClampNeg (m.1 17 (v2).toNatClampNeg)) := zI.w hI rfl (rg _)
      have kf6 : Fr wX6_copyFrom_i3 m0 (sm_w1 m 71 (v2).toNatClampNeg (m.1 17 (v2).toNatClampNeg)) := Fr.w hF rfl
      exact ih (v2 + (1 : Int32)) (sm_w1 m 71 (v2).toNatClampNeg (m.1 17 (v2).toNatClampNeg)) (show 0 ≤ (v2 + (1 : Int32)).toInt ∧ (v2 + (1 : Int32)).toInt ≤ 14 ∧ 14 - (v2 + (1 : Int32)).toInt < (n : Int) by omega) ki5 kf6
theorem zX6_copyFrom_i3 (m : sm_S) (hI : zI m) : Sf (fun r => (True) ∧ zI r ∧ Fr wX6_copyFrom_i3 m r) (fX6_copyFrom_i3 m) := by
  have hfu := fuE
  unfold fX6_copyFrom_i3
  have kc1 := L0
  have kc2 : 0 ≤ (m.1 16 0).toInt ∧ (m.1 16 0).toInt ≤ 9 := hI.1 16 0
  have ki3 : zI (sm_w1 m 70 0 (m.1 16 0)) := zI.w hI rfl (show 0 ≤ ((m.1 16 0)).toInt ∧ ((m.1 16 0)).toInt ≤ 9 by omega)
  have ki4 : zI (sm_w1 (sm_w1 m 70 0 (m.1 16 0)) 70 1 (m.1 16 1)) := zI.w ki3 rfl (rg _)
  have kf5 : Fr wX6_copyFrom_i3 m (sm_w1 m 70 0 (m.1 16 0)) := Fr.w Fr.refl rfl
  have kf6 : Fr wX6_copyFrom_i3 m (sm_w1 (sm_w1 m 70 0 (m.1 16 0)) 70 1 (m.1 16 1)) := Fr.w kf5 rfl
  exact zX6_copyFrom_i3_18 m sm_fu (0 : Int32) (sm_w1 (sm_w1 m 70 0 (m.1 16 0)) 70 1 (m.1 16 1)) (show 0 ≤ (0 : Int32).toInt ∧ (0 : Int32).toInt ≤ 14 ∧ 14 - (0 : Int32).toInt < (sm_fu : Int) by omega) ki4 kf6
theorem zX11_keep (x1 : Int32) (m : sm_S) (hI : zI m) : Sf (fun r => ((0 ≤ r.1.toInt) ∧ (r.1.toInt ≤ 1)) ∧ zI r.2 ∧ Fr wX11_keep m r.2) (fX11_keep x1 m) := by
  have hfu := fuE
  unfold fX11_keep
  have kc1 := L0
  refine s_lt (fun kh2 => ?_) (fun kh2 => ?_)
  · exact s_ret ⟨(show (0 ≤ (0 : Int32).toInt) ∧ ((0 : Int32).toInt ≤ 1) by omega), hI, Fr.refl⟩
  · have kc3 := L3
    refine s_lt (fun kh4 => ?_) (fun kh4 => ?_)
    · refine s_eq (fun kh5 => ?_) (fun kh5 => ?_)
      · refine s_bd (zX6_copyFrom_i1 m hI) (fun m2 kr6 => ?_)
        obtain ⟨kp7, ki8, kf9⟩ := kr6
        have kc10 := L1
        have kc11 : 0 ≤ (vp_nar .boolean (1 : Int32)).toInt ∧ (vp_nar .boolean (1 : Int32)).toInt ≤ 1 := a_bool _
        have ki12 : zI (sm_w1 m2 57 0 (vp_nar .boolean (1 : Int32))) := zI.w ki8 rfl (show 0 ≤ ((vp_nar .boolean (1 : Int32))).toInt ∧ ((vp_nar .boolean (1 : Int32))).toInt ≤ 1 by omega)
        have kf13 : Fr wX11_keep m m2 := Fr.trans Fr.refl kf9 rfl
        have kf14 : Fr wX11_keep m (sm_w1 m2 57 0 (vp_nar .boolean (1 : Int32))) := Fr.w kf13 rfl
        exact s_ret ⟨(show (0 ≤ (1 : Int32).toInt) ∧ ((1 : Int32).toInt ≤ 1) by omega), ki12, kf14⟩
      · have kc15 := L1
        refine s_eq (fun kh16 => ?_) (fun kh16 => ?_)
        · refine s_bd (zX6_copyFrom_i2 m hI) (fun m5 kr17 => ?_)
          obtain ⟨kp18, ki19, kf20⟩ := kr17
          have kc21 : 0 ≤ (vp_nar .boolean (1 : Int32)).toInt ∧ (vp_nar .boolean (1 : Int32)).toInt ≤ 1 := a_bool _
          have ki22 : zI (sm_w1 m5 57 1 (vp_nar .boolean (1 : Int32))) := zI.w ki19 rfl (show 0 ≤ ((vp_nar .boolean (1 : Int32))).toInt ∧ ((vp_nar .boolean (1 : Int32))).toInt ≤ 1 by omega)
          have kf23 : Fr wX11_keep m m5 := Fr.trans Fr.refl kf20 rfl
          have kf24 : Fr wX11_keep m (sm_w1 m5 57 1 (vp_nar .boolean (1 : Int32))) := Fr.w kf23 rfl
          exact s_ret ⟨(show (0 ≤ (1 : Int32).toInt) ∧ ((1 : Int32).toInt ≤ 1) by omega), ki22, kf24⟩
        · have kc25 := L2
          refine s_eq (fun kh26 => ?_) (fun kh26 => ?_)
          · refine s_bd (zX6_copyFrom_i3 m hI) (fun m8 kr27 => ?_)
            obtain ⟨kp28, ki29, kf30⟩ := kr27
            have kc31 : 0 ≤ (vp_nar .boolean (1 : Int32)).toInt ∧ (vp_nar .boolean (1 : Int32)).toInt ≤ 1 := a_bool _
            have ki32 : zI (sm_w1 m8 57 2 (vp_nar .boolean (1 : Int32))) := zI.w ki29 rfl (show 0 ≤ ((vp_nar .boolean (1 : Int32))).toInt ∧ ((vp_nar .boolean (1 : Int32))).toInt ≤ 1 by omega)
            have kf33 : Fr wX11_keep m m8 := Fr.trans Fr.refl kf30 rfl
            have kf34 : Fr wX11_keep m (sm_w1 m8 57 2 (vp_nar .boolean (1 : Int32))) := Fr.w kf33 rfl
            exact s_ret ⟨(show (0 ≤ (1 : Int32).toInt) ∧ ((1 : Int32).toInt ≤ 1) by omega), ki32, kf34⟩
          · omega
    · exact s_ret ⟨(show (0 ≤ (0 : Int32).toInt) ∧ ((0 : Int32).toInt ≤ 1) by omega), hI, Fr.refl⟩
theorem zX6_copyFrom_i4_18 (m0 : sm_S) : ∀ (n : Nat) (v2 : Int32) (m : sm_S), (0 ≤ v2.toInt ∧ v2.toInt ≤ 14 ∧ 14 - v2.toInt < (n : Int)) → zI m → Fr wX6_copyFrom_i4 m0 m → Sf (fun r => (True) ∧ zI r ∧ Fr wX6_copyFrom_i4 m0 r) (fX6_copyFrom_i4_18 n v2 m) := by
  intro n
  induction n with
  | zero =>
    intro v2 m hp hI hF
    exfalso
    omega
  | succ n ih =>
    intro v2 m hp hI hF
    have hnn : ((n + 1 : Nat) : Int) = (n : Int) + 1 := by omega
    have hfu := fuE
    unfold fX6_copyFrom_i4_18
    have kc1 := L14
    refine s_le (fun kh2 => ?_) (fun kh2 => ?_)
    · exact s_ret ⟨trivial, hI, hF⟩
    · have kx3 : 0 ≤ (v2).toInt ∧ (v2).toInt < (14 : Int) := by omega
      refine s_ix kx3 ?_
      refine s_ix kx3 ?_
      have kc4 : (v2 + (1 : Int32)).toInt = (v2).toInt + 1 := a_addl L1 (by omega) (by omega)
      have ki5 : zI (sm_w1 m 17 (v2).toNatClampNeg (m.1 67 (v2).toNatClampNeg)) := zI.w hI rfl (rg _)
      have kf6 : Fr wX6_copyFrom_i4 m0 (sm_w1 m 17 (v2).toNatClampNeg (m.1 67 (v2).toNatClampNeg)) := Fr.w hF rfl
      exact ih (v2 + (1 : Int32)) (sm_w1 m 17 (v2).toNatClampNeg (m.1 67 (v2).toNatClampNeg)) (show 0 ≤ (v2 + (1 : Int32)).toInt ∧ (v2 + (1 : Int32)).toInt ≤ 14 ∧ 14 - (v2 + (1 : Int32)).toInt < (n : Int) by omega) ki5 kf6
theorem zX6_copyFrom_i4 (m : sm_S) (hI : zI m) : Sf (fun r => (True) ∧ zI r ∧ Fr wX6_copyFrom_i4 m r) (fX6_copyFrom_i4 m) := by
  have hfu := fuE
  unfold fX6_copyFrom_i4
  have kc1 := L0
  have kc2 : 0 ≤ (m.1 66 0).toInt ∧ (m.1 66 0).toInt ≤ 9 := hI.1 66 0
  have ki3 : zI (sm_w1 m 16 0 (m.1 66 0)) := zI.w hI rfl (show 0 ≤ ((m.1 66 0)).toInt ∧ ((m.1 66 0)).toInt ≤ 9 by omega)
  have ki4 : zI (sm_w1 (sm_w1 m 16 0 (m.1 66 0)) 16 1 (m.1 66 1)) := zI.w ki3 rfl (rg _)
  have kf5 : Fr wX6_copyFrom_i4 m (sm_w1 m 16 0 (m.1 66 0)) := Fr.w Fr.refl rfl
  have kf6 : Fr wX6_copyFrom_i4 m (sm_w1 (sm_w1 m 16 0 (m.1 66 0)) 16 1 (m.1 66 1)) := Fr.w kf5 rfl
  exact zX6_copyFrom_i4_18 m sm_fu (0 : Int32) (sm_w1 (sm_w1 m 16 0 (m.1 66 0)) 16 1 (m.1 66 1)) (show 0 ≤ (0 : Int32).toInt ∧ (0 : Int32).toInt ≤ 14 ∧ 14 - (0 : Int32).toInt < (sm_fu : Int) by omega) ki4 kf6
theorem zX6_copyFrom_i5_18 (m0 : sm_S) : ∀ (n : Nat) (v2 : Int32) (m : sm_S), (0 ≤ v2.toInt ∧ v2.toInt ≤ 14 ∧ 14 - v2.toInt < (n : Int)) → zI m → Fr wX6_copyFrom_i5 m0 m → Sf (fun r => (True) ∧ zI r ∧ Fr wX6_copyFrom_i5 m0 r) (fX6_copyFrom_i5_18 n v2 m) := by
  intro n
  induction n with
  | zero =>
    intro v2 m hp hI hF
    exfalso
    omega
  | succ n ih =>
    intro v2 m hp hI hF
    have hnn : ((n + 1 : Nat) : Int) = (n : Int) + 1 := by omega
    have hfu := fuE
    unfold fX6_copyFrom_i5_18
    have kc1 := L14
    refine s_le (fun kh2 => ?_) (fun kh2 => ?_)
    · exact s_ret ⟨trivial, hI, hF⟩
    · have kx3 : 0 ≤ (v2).toInt ∧ (v2).toInt < (14 : Int) := by omega
      refine s_ix kx3 ?_
      refine s_ix kx3 ?_
      have kc4 : (v2 + (1 : Int32)).toInt = (v2).toInt + 1 := a_addl L1 (by omega) (by omega)
      have ki5 : zI (sm_w1 m 17 (v2).toNatClampNeg (m.1 69 (v2).toNatClampNeg)) := zI.w hI rfl (rg _)
      have kf6 : Fr wX6_copyFrom_i5 m0 (sm_w1 m 17 (v2).toNatClampNeg (m.1 69 (v2).toNatClampNeg)) := Fr.w hF rfl
      exact ih (v2 + (1 : Int32)) (sm_w1 m 17 (v2).toNatClampNeg (m.1 69 (v2).toNatClampNeg)) (show 0 ≤ (v2 + (1 : Int32)).toInt ∧ (v2 + (1 : Int32)).toInt ≤ 14 ∧ 14 - (v2 + (1 : Int32)).toInt < (n : Int) by omega) ki5 kf6
theorem zX6_copyFrom_i5 (m : sm_S) (hI : zI m) : Sf (fun r => (True) ∧ zI r ∧ Fr wX6_copyFrom_i5 m r) (fX6_copyFrom_i5 m) := by
  have hfu := fuE
  unfold fX6_copyFrom_i5
  have kc1 := L0
  have kc2 : 0 ≤ (m.1 68 0).toInt ∧ (m.1 68 0).toInt ≤ 9 := hI.1 68 0
  have ki3 : zI (sm_w1 m 16 0 (m.1 68 0)) := zI.w hI rfl (show 0 ≤ ((m.1 68 0)).toInt ∧ ((m.1 68 0)).toInt ≤ 9 by omega)
  have ki4 : zI (sm_w1 (sm_w1 m 16 0 (m.1 68 0)) 16 1 (m.1 68 1)) := zI.w ki3 rfl (rg _)
  have kf5 : Fr wX6_copyFrom_i5 m (sm_w1 m 16 0 (m.1 68 0)) := Fr.w Fr.refl rfl
  have kf6 : Fr wX6_copyFrom_i5 m (sm_w1 (sm_w1 m 16 0 (m.1 68 0)) 16 1 (m.1 68 1)) := Fr.w kf5 rfl
  exact zX6_copyFrom_i5_18 m sm_fu (0 : Int32) (sm_w1 (sm_w1 m 16 0 (m.1 68 0)) 16 1 (m.1 68 1)) (show 0 ≤ (0 : Int32).toInt ∧ (0 : Int32).toInt ≤ 14 ∧ 14 - (0 : Int32).toInt < (sm_fu : Int) by omega) ki4 kf6
theorem zX6_copyFrom_i6_18 (m0 : sm_S) : ∀ (n : Nat) (v2 : Int32) (m : sm_S), (0 ≤ v2.toInt ∧ v2.toInt ≤ 14 ∧ 14 - v2.toInt < (n : Int)) → zI m → Fr wX6_copyFrom_i6 m0 m → Sf (fun r => (True) ∧ zI r ∧ Fr wX6_copyFrom_i6 m0 r) (fX6_copyFrom_i6_18 n v2 m) := by
  intro n
  induction n with
  | zero =>
    intro v2 m hp hI hF
    exfalso
    omega
  | succ n ih =>
    intro v2 m hp hI hF
    have hnn : ((n + 1 : Nat) : Int) = (n : Int) + 1 := by omega
    have hfu := fuE
    unfold fX6_copyFrom_i6_18
    have kc1 := L14
    refine s_le (fun kh2 => ?_) (fun kh2 => ?_)
    · exact s_ret ⟨trivial, hI, hF⟩
    · have kx3 : 0 ≤ (v2).toInt ∧ (v2).toInt < (14 : Int) := by omega
      refine s_ix kx3 ?_
      refine s_ix kx3 ?_
      have kc4 : (v2 + (1 : Int32)).toInt = (v2).toInt + 1 := a_addl L1 (by omega) (by omega)
      have ki5 : zI (sm_w1 m 17 (v2).toNatClampNeg (m.1 71 (v2).toNatClampNeg)) := zI.w hI rfl (rg _)
      have kf6 : Fr wX6_copyFrom_i6 m0 (sm_w1 m 17 (v2).toNatClampNeg (m.1 71 (v2).toNatClampNeg)) := Fr.w hF rfl
      exact ih (v2 + (1 : Int32)) (sm_w1 m 17 (v2).toNatClampNeg (m.1 71 (v2).toNatClampNeg)) (show 0 ≤ (v2 + (1 : Int32)).toInt ∧ (v2 + (1 : Int32)).toInt ≤ 14 ∧ 14 - (v2 + (1 : Int32)).toInt < (n : Int) by omega) ki5 kf6
theorem zX6_copyFrom_i6 (m : sm_S) (hI : zI m) : Sf (fun r => (True) ∧ zI r ∧ Fr wX6_copyFrom_i6 m r) (fX6_copyFrom_i6 m) := by
  have hfu := fuE
  unfold fX6_copyFrom_i6
  have kc1 := L0
  have kc2 : 0 ≤ (m.1 70 0).toInt ∧ (m.1 70 0).toInt ≤ 9 := hI.1 70 0
  have ki3 : zI (sm_w1 m 16 0 (m.1 70 0)) := zI.w hI rfl (show 0 ≤ ((m.1 70 0)).toInt ∧ ((m.1 70 0)).toInt ≤ 9 by omega)
  have ki4 : zI (sm_w1 (sm_w1 m 16 0 (m.1 70 0)) 16 1 (m.1 70 1)) := zI.w ki3 rfl (rg _)
  have kf5 : Fr wX6_copyFrom_i6 m (sm_w1 m 16 0 (m.1 70 0)) := Fr.w Fr.refl rfl
  have kf6 : Fr wX6_copyFrom_i6 m (sm_w1 (sm_w1 m 16 0 (m.1 70 0)) 16 1 (m.1 70 1)) := Fr.w kf5 rfl
  exact zX6_copyFrom_i6_18 m sm_fu (0 : Int32) (sm_w1 (sm_w1 m 16 0 (m.1 70 0)) 16 1 (m.1 70 1)) (show 0 ≤ (0 : Int32).toInt ∧ (0 : Int32).toInt ≤ 14 ∧ 14 - (0 : Int32).toInt < (sm_fu : Int) by omega) ki4 kf6
theorem zX11_again (x1 : Int32) (m : sm_S) (hI : zI m) : Sf (fun r => ((0 ≤ r.1.toInt) ∧ (r.1.toInt ≤ 1) ∧ ((r.1.toInt = 0 ∧ (x1.toInt < 0 ∨ 2 < x1.toInt ∨ (m.1 57 x1.toNatClampNeg).toInt = 0)) ∨ (r.1.toInt = 1 ∧ 0 ≤ x1.toInt ∧ x1.toInt ≤ 2 ∧ (m.1 57 x1.toNatClampNeg).toInt ≠ 0))) ∧ zI r.2 ∧ Fr wX11_again m r.2) (fX11_again x1 m) := by
  have hfu := fuE
  unfold fX11_again
  have kc1 := L0
  refine s_lt (fun kh2 => ?_) (fun kh2 => ?_)
  · have kc3 : 0 ≤ (m.1 57 (x1).toNatClampNeg).toInt ∧ (m.1 57 (x1).toNatClampNeg).toInt ≤ 1 := hI.1 57 (x1).toNatClampNeg
    exact s_ret ⟨(show (0 ≤ (0 : Int32).toInt) ∧ ((0 : Int32).toInt ≤ 1) ∧ (((0 : Int32).toInt = 0 ∧ (x1.toInt < 0 ∨ 2 < x1.toInt ∨ (m.1 57 x1.toNatClampNeg).toInt = 0)) ∨ ((0 : Int32).toInt = 1 ∧ 0 ≤ x1.toInt ∧ x1.toInt ≤ 2 ∧ (m.1 57 x1.toNatClampNeg).toInt ≠ 0)) by omega), hI, Fr.refl⟩
  · have kc4 := L3
    refine s_le (fun kh5 => ?_) (fun kh5 => ?_)
    · have kc6 : 0 ≤ (m.1 57 (x1).toNatClampNeg).toInt ∧ (m.1 57 (x1).toNatClampNeg).toInt ≤ 1 := hI.1 57 (x1).toNatClampNeg
      exact s_ret ⟨(show (0 ≤ (0 : Int32).toInt) ∧ ((0 : Int32).toInt ≤ 1) ∧ (((0 : Int32).toInt = 0 ∧ (x1.toInt < 0 ∨ 2 < x1.toInt ∨ (m.1 57 x1.toNatClampNeg).toInt = 0)) ∨ ((0 : Int32).toInt = 1 ∧ 0 ≤ x1.toInt ∧ x1.toInt ≤ 2 ∧ (m.1 57 x1.toNatClampNeg).toInt ≠ 0)) by omega), hI, Fr.refl⟩
    · have kx7 : 0 ≤ (x1).toInt ∧ (x1).toInt < (3 : Int) := by omega
      refine s_ix kx7 ?_
      have kc8 : 0 ≤ (m.1 57 (x1).toNatClampNeg).toInt ∧ (m.1 57 (x1).toNatClampNeg).toInt ≤ 1 := hI.1 57 (x1).toNatClampNeg
      refine s_eq (fun kh9 => ?_) (fun kh9 => ?_)
      · exact s_ret ⟨(show (0 ≤ (0 : Int32).toInt) ∧ ((0 : Int32).toInt ≤ 1) ∧ (((0 : Int32).toInt = 0 ∧ (x1.toInt < 0 ∨ 2 < x1.toInt ∨ (m.1 57 x1.toNatClampNeg).toInt = 0)) ∨ ((0 : Int32).toInt = 1 ∧ 0 ≤ x1.toInt ∧ x1.toInt ≤ 2 ∧ (m.1 57 x1.toNatClampNeg).toInt ≠ 0)) by omega), hI, Fr.refl⟩
      · refine s_eq (fun kh10 => ?_) (fun kh10 => ?_)
        · refine s_bd (zX6_copyFrom_i4 m hI) (fun m3 kr11 => ?_)
          obtain ⟨kp12, ki13, kf14⟩ := kr11
          have kc15 := L1
          have ki16 : zI (sm_w1 m3 20 0 (0 : Int32)) := zI.w ki13 rfl (show 0 ≤ ((0 : Int32)).toInt ∧ ((0 : Int32)).toInt ≤ 30 by omega)
          have kf17 : Fr wX11_again m m3 := Fr.trans Fr.refl kf14 rfl
          have kf18 : Fr wX11_again m (sm_w1 m3 20 0 (0 : Int32)) := Fr.w kf17 rfl
          exact s_ret ⟨(show (0 ≤ (1 : Int32).toInt) ∧ ((1 : Int32).toInt ≤ 1) ∧ (((1 : Int32).toInt = 0 ∧ (x1.toInt < 0 ∨ 2 < x1.toInt ∨ (m.1 57 x1.toNatClampNeg).toInt = 0)) ∨ ((1 : Int32).toInt = 1 ∧ 0 ≤ x1.toInt ∧ x1.toInt ≤ 2 ∧ (m.1 57 x1.toNatClampNeg).toInt ≠ 0)) by omega), ki16, kf18⟩
        · have kc19 := L1
          refine s_eq (fun kh20 => ?_) (fun kh20 => ?_)
          · refine s_bd (zX6_copyFrom_i5 m hI) (fun m6 kr21 => ?_)
            obtain ⟨kp22, ki23, kf24⟩ := kr21
            have ki25 : zI (sm_w1 m6 20 0 (0 : Int32)) := zI.w ki23 rfl (show 0 ≤ ((0 : Int32)).toInt ∧ ((0 : Int32)).toInt ≤ 30 by omega)
            have kf26 : Fr wX11_again m m6 := Fr.trans Fr.refl kf24 rfl
            have kf27 : Fr wX11_again m (sm_w1 m6 20 0 (0 : Int32)) := Fr.w kf26 rfl
            exact s_ret ⟨(show (0 ≤ (1 : Int32).toInt) ∧ ((1 : Int32).toInt ≤ 1) ∧ (((1 : Int32).toInt = 0 ∧ (x1.toInt < 0 ∨ 2 < x1.toInt ∨ (m.1 57 x1.toNatClampNeg).toInt = 0)) ∨ ((1 : Int32).toInt = 1 ∧ 0 ≤ x1.toInt ∧ x1.toInt ≤ 2 ∧ (m.1 57 x1.toNatClampNeg).toInt ≠ 0)) by omega), ki25, kf27⟩
          · have kc28 := L2
            refine s_eq (fun kh29 => ?_) (fun kh29 => ?_)
            · refine s_bd (zX6_copyFrom_i6 m hI) (fun m9 kr30 => ?_)
              obtain ⟨kp31, ki32, kf33⟩ := kr30
              have ki34 : zI (sm_w1 m9 20 0 (0 : Int32)) := zI.w ki32 rfl (show 0 ≤ ((0 : Int32)).toInt ∧ ((0 : Int32)).toInt ≤ 30 by omega)
              have kf35 : Fr wX11_again m m9 := Fr.trans Fr.refl kf33 rfl
              have kf36 : Fr wX11_again m (sm_w1 m9 20 0 (0 : Int32)) := Fr.w kf35 rfl
              exact s_ret ⟨(show (0 ≤ (1 : Int32).toInt) ∧ ((1 : Int32).toInt ≤ 1) ∧ (((1 : Int32).toInt = 0 ∧ (x1.toInt < 0 ∨ 2 < x1.toInt ∨ (m.1 57 x1.toNatClampNeg).toInt = 0)) ∨ ((1 : Int32).toInt = 1 ∧ 0 ≤ x1.toInt ∧ x1.toInt ≤ 2 ∧ (m.1 57 x1.toNatClampNeg).toInt ≠ 0)) by omega), ki34, kf36⟩
            · omega
theorem zX11_count (x1 : Int32) (m : sm_S) (hI : zI m) : Sf (fun r => True) (fX11_count x1 m) := by
  have hfu := fuE
  unfold fX11_count
  have kc1 := L0
  refine s_eq (fun kh2 => ?_) (fun kh2 => ?_)
  · have kc3 : 0 ≤ (m.1 3 0).toInt ∧ (m.1 3 0).toInt ≤ 10 := hI.1 3 0
    exact s_ret trivial
  · have kc4 := L1
    refine s_eq (fun kh5 => ?_) (fun kh5 => ?_)
    · have kc6 : 0 ≤ (m.1 3 1).toInt ∧ (m.1 3 1).toInt ≤ 14 := hI.1 3 1
      exact s_ret trivial
    · have kc7 := L2
      refine s_eq (fun kh8 => ?_) (fun kh8 => ?_)
      · refine s_bd (zX11_walkersCorner m hI) (fun r5 kr9 => ?_)
        replace kr9 : ((-1 : Int) ≤ r5.toInt) ∧ (r5.toInt ≤ 9) := kr9
        exact s_ret trivial
      · have kc10 := L3
        refine s_eq (fun kh11 => ?_) (fun kh11 => ?_)
        · exact s_ret trivial
        · have kc12 := L4
          refine s_eq (fun kh13 => ?_) (fun kh13 => ?_)
          · have kc14 : 0 ≤ (m.1 20 0).toInt ∧ (m.1 20 0).toInt ≤ 30 := hI.1 20 0
            exact s_ret trivial
          · have kc15 := L5
            refine s_eq (fun kh16 => ?_) (fun kh16 => ?_)
            · have kc17 : 0 ≤ (m.1 51 0).toInt ∧ (m.1 51 0).toInt ≤ 12 := hI.1 51 0
              exact s_ret trivial
            · have kc18 := L6
              refine s_eq (fun kh19 => ?_) (fun kh19 => ?_)
              · have kc20 : 0 ≤ (m.1 14 1).toInt ∧ (m.1 14 1).toInt ≤ 14 := hI.1 14 1
                exact s_ret trivial
              · have kc21 := L7
                refine s_eq (fun kh22 => ?_) (fun kh22 => ?_)
                · have kc23 : 0 ≤ (m.1 1 1).toInt ∧ (m.1 1 1).toInt ≤ 80 := hI.1 1 1
                  exact s_ret trivial
                · have kc24 := L8
                  refine s_eq (fun kh25 => ?_) (fun kh25 => ?_)
                  · have kc26 : 0 ≤ (m.1 3 2).toInt ∧ (m.1 3 2).toInt ≤ 99 := hI.1 3 2
                    exact s_ret trivial
                  · have kc27 := L9
                    refine s_eq (fun kh28 => ?_) (fun kh28 => ?_)
                    · have kc29 : 0 ≤ (m.1 3 3).toInt ∧ (m.1 3 3).toInt ≤ 9999 := hI.1 3 3
                      exact s_ret trivial
                    · have kc30 := Ln1
                      exact s_ret trivial
theorem zX12_sign_18 (m0 : sm_S) : ∀ (n : Nat) (v1 : Int32) (v2 : Int32) (m : sm_S), (0 ≤ v2.toInt ∧ v2.toInt ≤ 4 ∧ 4 - v2.toInt < (n : Int) ∧ (m.1 72 21).toInt ≤ 76 ∧ (m.1 72 21).toInt = (m0.1 72 21).toInt) → zI m → Fr wX12_sign m0 m → Sf (fun r => (((-1 : Int) ≤ r.1.toInt) ∧ (r.1.toInt ≤ 84) ∧ ((r.1.toInt = -1 ∧ (r.2.1 72 21).toInt = (m0.1 72 21).toInt ∧ 76 < (m0.1 72 21).toInt) ∨ (r.1.toInt = (m0.1 72 21).toInt + 4 ∧ (r.2.1 72 21).toInt = (m0.1 72 21).toInt + 4 ∧ (m0.1 72 21).toInt ≤ 76))) ∧ zI r.2 ∧ Fr wX12_sign m0 r.2) (fX12_sign_18 n v1 v2 m) := by
  intro n
  induction n with
  | zero =>
    intro v1 v2 m hp hI hF
    have kc1 : 0 ≤ (m.1 72 21).toInt ∧ (m.1 72 21).toInt ≤ 80 := hI.1 72 21
    exfalso
    omega
  | succ n ih =>
    intro v1 v2 m hp hI hF
    have hnn : ((n + 1 : Nat) : Int) = (n : Int) + 1 := by omega
    have hfu := fuE
    have kc1 : 0 ≤ (m.1 72 21).toInt ∧ (m.1 72 21).toInt ≤ 80 := hI.1 72 21
    unfold fX12_sign_18
    have kc2 := L4
    refine s_le (fun kh3 => ?_) (fun kh3 => ?_)
    · have kc4 : ((m.1 72 21) + (4 : Int32)).toInt = ((m.1 72 21)).toInt + 4 := a_addl L4 (by omega) (by omega)
      have ki5 : zI (sm_w1 m 72 21 ((m.1 72 21) + (4 : Int32))) := zI.w hI rfl (show 0 ≤ (((m.1 72 21) + (4 : Int32))).toInt ∧ (((m.1 72 21) + (4 : Int32))).toInt ≤ 80 by omega)
      have kc6 : 0 ≤ ((sm_w1 m 72 21 ((m.1 72 21) + (4 : Int32))).1 72 21).toInt ∧ ((sm_w1 m 72 21 ((m.1 72 21) + (4 : Int32))).1 72 21).toInt ≤ 80 := ki5.1 72 21
      have kc7 : ((sm_w1 m 72 21 ((m.1 72 21) + (4 : Int32))).1 72 21).toInt = (((m.1 72 21) + (4 : Int32))).toInt := rfl
      have kf8 : Fr wX12_sign m0 (sm_w1 m 72 21 ((m.1 72 21) + (4 : Int32))) := Fr.w hF rfl
      exact s_ret ⟨(show ((-1 : Int) ≤ ((m.1 72 21) + (4 : Int32)).toInt) ∧ (((m.1 72 21) + (4 : Int32)).toInt ≤ 84) ∧ ((((m.1 72 21) + (4 : Int32)).toInt = -1 ∧ ((sm_w1 m 72 21 ((m.1 72 21) + (4 : Int32))).1 72 21).toInt = (m0.1 72 21).toInt ∧ 76 < (m0.1 72 21).toInt) ∨ (((m.1 72 21) + (4 : Int32)).toInt = (m0.1 72 21).toInt + 4 ∧ ((sm_w1 m 72 21 ((m.1 72 21) + (4 : Int32))).1 72 21).toInt = (m0.1 72 21).toInt + 4 ∧ (m0.1 72 21).toInt ≤ 76)) by omega), ki5, kf8⟩
    · have kc9 : ((m.1 72 21) + v2).toInt = ((m.1 72 21)).toInt + (v2).toInt := a_add (by omega) (by omega)
      have kx10 : 0 ≤ (((m.1 72 21) + v2)).toInt ∧ (((m.1 72 21) + v2)).toInt < (80 : Int) := by omega
      refine s_ix kx10 ?_
      have kc11 : (v2 + (1 : Int32)).toInt = (v2).toInt + 1 := a_addl L1 (by omega) (by omega)
      have kc12 := L24
      have kc13 := L8
      have kc14 : ((8 : Int32) * v2).toInt = 8 * (v2).toInt := a_mul L8 rfl (by omega) (by omega)
      have kc15 : ((24 : Int32) - ((8 : Int32) * v2)).toInt = ((24 : Int32)).toInt - (((8 : Int32) * v2)).toInt := a_sub (by omega) (by omega)
      have kc16 := L31
      have kc17 : 0 ≤ (((24 : Int32) - ((8 : Int32) * v2)) &&& (31 : Int32)).toInt ∧ (((24 : Int32) - ((8 : Int32) * v2)) &&& (31 : Int32)).toInt ≤ ((31 : Int32)).toInt := a_andr (by omega)
      have kc18 : 0 ≤ (((24 : Int32) - ((8 : Int32) * v2)) &&& (31 : Int32)).toInt ∧ (((24 : Int32) - ((8 : Int32) * v2)) &&& (31 : Int32)).toInt ≤ (((24 : Int32) - ((8 : Int32) * v2))).toInt := a_andl (by omega)
      have kc19 := L255
      have kc20 : 0 ≤ ((v1 >>> (((24 : Int32) - ((8 : Int32) * v2)) &&& (31 : Int32))) &&& (255 : Int32)).toInt ∧ ((v1 >>> (((24 : Int32) - ((8 : Int32) * v2)) &&& (31 : Int32))) &&& (255 : Int32)).toInt ≤ ((255 : Int32)).toInt := a_andr (by omega)
      have ki21 : zI (sm_w1 m 84 (((m.1 72 21) + v2)).toNatClampNeg ((v1 >>> (((24 : Int32) - ((8 : Int32) * v2)) &&& (31 : Int32))) &&& (255 : Int32))) := zI.w hI rfl (show 0 ≤ (((v1 >>> (((24 : Int32) - ((8 : Int32) * v2)) &&& (31 : Int32))) &&& (255 : Int32))).toInt ∧ (((v1 >>> (((24 : Int32) - ((8 : Int32) * v2)) &&& (31 : Int32))) &&& (255 : Int32))).toInt ≤ 255 by omega)
      have kc22 : 0 ≤ ((sm_w1 m 84 (((m.1 72 21) + v2)).toNatClampNeg ((v1 >>> (((24 : Int32) - ((8 : Int32) * v2)) &&& (31 : Int32))) &&& (255 : Int32))).1 72 21).toInt ∧ ((sm_w1 m 84 (((m.1 72 21) + v2)).toNatClampNeg ((v1 >>> (((24 : Int32) - ((8 : Int32) * v2)) &&& (31 : Int32))) &&& (255 : Int32))).1 72 21).toInt ≤ 80 := ki21.1 72 21
      have kc23 : ((sm_w1 m 84 (((m.1 72 21) + v2)).toNatClampNeg ((v1 >>> (((24 : Int32) - ((8 : Int32) * v2)) &&& (31 : Int32))) &&& (255 : Int32))).1 72 21).toInt = (m.1 72 21).toInt := congrArg Int32.toInt (r_cell (by decide))
      have kf24 : Fr wX12_sign m0 (sm_w1 m 84 (((m.1 72 21) + v2)).toNatClampNeg ((v1 >>> (((24 : Int32) - ((8 : Int32) * v2)) &&& (31 : Int32))) &&& (255 : Int32))) := Fr.w hF rfl
      exact ih v1 (v2 + (1 : Int32)) (sm_w1 m 84 (((m.1 72 21) + v2)).toNatClampNeg ((v1 >>> (((24 : Int32) - ((8 : Int32) * v2)) &&& (31 : Int32))) &&& (255 : Int32))) (show 0 ≤ (v2 + (1 : Int32)).toInt ∧ (v2 + (1 : Int32)).toInt ≤ 4 ∧ 4 - (v2 + (1 : Int32)).toInt < (n : Int) ∧ ((sm_w1 m 84 (((m.1 72 21) + v2)).toNatClampNeg ((v1 >>> (((24 : Int32) - ((8 : Int32) * v2)) &&& (31 : Int32))) &&& (255 : Int32))).1 72 21).toInt ≤ 76 ∧ ((sm_w1 m 84 (((m.1 72 21) + v2)).toNatClampNeg ((v1 >>> (((24 : Int32) - ((8 : Int32) * v2)) &&& (31 : Int32))) &&& (255 : Int32))).1 72 21).toInt = (m0.1 72 21).toInt by omega) ki21 kf24
theorem zX12_sign (x1 : Int32) (m : sm_S) (hI : zI m) : Sf (fun r => (((-1 : Int) ≤ r.1.toInt) ∧ (r.1.toInt ≤ 84) ∧ ((r.1.toInt = -1 ∧ (r.2.1 72 21).toInt = (m.1 72 21).toInt ∧ 76 < (m.1 72 21).toInt) ∨ (r.1.toInt = (m.1 72 21).toInt + 4 ∧ (r.2.1 72 21).toInt = (m.1 72 21).toInt + 4 ∧ (m.1 72 21).toInt ≤ 76))) ∧ zI r.2 ∧ Fr wX12_sign m r.2) (fX12_sign x1 m) := by
  have hfu := fuE
  unfold fX12_sign
  have kc1 : 0 ≤ (m.1 72 21).toInt ∧ (m.1 72 21).toInt ≤ 80 := hI.1 72 21
  have kc2 := L76
  refine s_le (fun kh3 => ?_) (fun kh3 => ?_)
  · have kc4 := L0
    have ki5 : zI (sm_w1 m 72 0 (0 : Int32)) := zI.w hI rfl (show 0 ≤ ((0 : Int32)).toInt ∧ ((0 : Int32)).toInt ≤ 1 by omega)
    have kc6 : 0 ≤ ((sm_w1 m 72 0 (0 : Int32)).1 72 21).toInt ∧ ((sm_w1 m 72 0 (0 : Int32)).1 72 21).toInt ≤ 80 := ki5.1 72 21
    have kc7 : ((sm_w1 m 72 0 (0 : Int32)).1 72 21).toInt = (m.1 72 21).toInt := rfl
    have kf8 : Fr wX12_sign m (sm_w1 m 72 0 (0 : Int32)) := Fr.w Fr.refl rfl
    exact zX12_sign_18 m sm_fu x1 (0 : Int32) (sm_w1 m 72 0 (0 : Int32)) (show 0 ≤ (0 : Int32).toInt ∧ (0 : Int32).toInt ≤ 4 ∧ 4 - (0 : Int32).toInt < (sm_fu : Int) ∧ ((sm_w1 m 72 0 (0 : Int32)).1 72 21).toInt ≤ 76 ∧ ((sm_w1 m 72 0 (0 : Int32)).1 72 21).toInt = (m.1 72 21).toInt by omega) ki5 kf8
  · have kc9 := Ln1
    have kc10 := L0
    have ki11 : zI (sm_w1 m 72 0 (0 : Int32)) := zI.w hI rfl (show 0 ≤ ((0 : Int32)).toInt ∧ ((0 : Int32)).toInt ≤ 1 by omega)
    have kc12 : 0 ≤ ((sm_w1 m 72 0 (0 : Int32)).1 72 21).toInt ∧ ((sm_w1 m 72 0 (0 : Int32)).1 72 21).toInt ≤ 80 := ki11.1 72 21
    have kc13 : ((sm_w1 m 72 0 (0 : Int32)).1 72 21).toInt = (m.1 72 21).toInt := rfl
    have kf14 : Fr wX12_sign m (sm_w1 m 72 0 (0 : Int32)) := Fr.w Fr.refl rfl
    exact s_ret ⟨(show ((-1 : Int) ≤ (-1 : Int32).toInt) ∧ ((-1 : Int32).toInt ≤ 84) ∧ (((-1 : Int32).toInt = -1 ∧ ((sm_w1 m 72 0 (0 : Int32)).1 72 21).toInt = (m.1 72 21).toInt ∧ 76 < (m.1 72 21).toInt) ∨ ((-1 : Int32).toInt = (m.1 72 21).toInt + 4 ∧ ((sm_w1 m 72 0 (0 : Int32)).1 72 21).toInt = (m.1 72 21).toInt + 4 ∧ (m.1 72 21).toInt ≤ 76)) by omega), ki11, kf14⟩
theorem zX12_in (x1 : Int64) (x2 : Int64) (x3 : Int64) (m : sm_S) (hp : (-1 : Int) ≤ x2.toInt ∧ x2.toInt ≤ 48 ∧ (-1 : Int) ≤ x3.toInt ∧ x3.toInt ≤ 9999) (hI : zI m) : Sf (fun r => (0 ≤ r.toInt) ∧ (r.toInt ≤ 1) ∧ ((r.toInt = 0 ∧ (x1.toInt < x2.toInt ∨ x3.toInt < x1.toInt)) ∨ (r.toInt = 1 ∧ x2.toInt ≤ x1.toInt ∧ x1.toInt ≤ x3.toInt))) (fX12_in x1 x2 x3 m) := by
  have l0 := L0
  have l1 := L1
  have cm : ∀ a b : Int64, ((lg_cmp a b).toInt < 0 ↔ a.toInt < b.toInt) ∧ (0 < (lg_cmp a b).toInt ↔ b.toInt < a.toInt) := by
    intro a b
    unfold lg_cmp
    by_cases h1 : a > b
    · rw [if_pos h1]
      have := Int64.lt_iff_toInt_lt.mp h1
      rw [L1]
      constructor <;> constructor <;> intro h <;> omega
    · rw [if_neg h1]
      have g1 : a.toInt ≤ b.toInt := Int.not_lt.mp (fun q => h1 (Int64.lt_iff_toInt_lt.mpr q))
      by_cases h2 : a = b
      · rw [if_pos h2]
        subst h2
        rw [L0]
        constructor <;> constructor <;> intro h <;> omega
      · rw [if_neg h2]
        have g2 : a.toInt ≠ b.toInt := fun q => h2 (Int64.toInt_inj.mp q)
        rw [Ln1]
        constructor <;> constructor <;> intro h <;> omega
  have c1 := cm x1 x2
  have c2 := cm x1 x3
  unfold fX12_in
  refine s_lt (fun h1 => ?_) (fun h1 => ?_)
  · exact s_ret (show (0 ≤ (0 : Int32).toInt) ∧ ((0 : Int32).toInt ≤ 1) ∧ (((0 : Int32).toInt = 0 ∧ (x1.toInt < x2.toInt ∨ x3.toInt < x1.toInt)) ∨ ((0 : Int32).toInt = 1 ∧ x2.toInt ≤ x1.toInt ∧ x1.toInt ≤ x3.toInt)) by omega)
  · refine s_lt (fun h2 => ?_) (fun h2 => ?_)
    · exact s_ret (show (0 ≤ (0 : Int32).toInt) ∧ ((0 : Int32).toInt ≤ 1) ∧ (((0 : Int32).toInt = 0 ∧ (x1.toInt < x2.toInt ∨ x3.toInt < x1.toInt)) ∨ ((0 : Int32).toInt = 1 ∧ x2.toInt ≤ x1.toInt ∧ x1.toInt ≤ x3.toInt)) by omega)
    · exact s_ret (show (0 ≤ (1 : Int32).toInt) ∧ ((1 : Int32).toInt ≤ 1) ∧ (((1 : Int32).toInt = 0 ∧ (x1.toInt < x2.toInt ∨ x3.toInt < x1.toInt)) ∨ ((1 : Int32).toInt = 1 ∧ x2.toInt ≤ x1.toInt ∧ x1.toInt ≤ x3.toInt)) by omega)
theorem zX12_end (x1 : Int32) (m : sm_S) (hI : zI m) : Sf (fun r => ((0 ≤ r.1.toInt) ∧ (r.1.toInt ≤ 1) ∧ ((r.1.toInt = 0 ∧ (r.2.1 72 21).toInt = (m.1 72 21).toInt ∧ (x1.toInt < 0 ∨ (m.1 72 21).toInt < x1.toInt)) ∨ (r.1.toInt = 1 ∧ 0 ≤ x1.toInt ∧ x1.toInt ≤ (m.1 72 21).toInt ∧ (r.2.1 72 21).toInt = x1.toInt))) ∧ zI r.2 ∧ Fr wX12_end m r.2) (fX12_end x1 m) := by
  have hfu := fuE
  unfold fX12_end
  have kc1 : (x1).toInt64.toInt = (x1).toInt := Int32.toInt_toInt64 _
  have kc2 := LL0
  have kc3 : 0 ≤ (m.1 72 21).toInt ∧ (m.1 72 21).toInt ≤ 80 := hI.1 72 21
  have kc4 : ((m.1 72 21)).toInt64.toInt = ((m.1 72 21)).toInt := Int32.toInt_toInt64 _
  have kc5 := L0
  have ki6 : zI (sm_w1 m 72 0 (0 : Int32)) := zI.w hI rfl (show 0 ≤ ((0 : Int32)).toInt ∧ ((0 : Int32)).toInt ≤ 1 by omega)
  refine s_bd (zX12_in (x1).toInt64 (0 : Int64) ((m.1 72 21)).toInt64 (sm_w1 m 72 0 (0 : Int32)) (show (-1 : Int) ≤ (0 : Int64).toInt ∧ (0 : Int64).toInt ≤ 48 ∧ (-1 : Int) ≤ ((m.1 72 21)).toInt64.toInt ∧ ((m.1 72 21)).toInt64.toInt ≤ 9999 by omega) ki6) (fun r2 kr7 => ?_)
  replace kr7 : (0 ≤ r2.toInt) ∧ (r2.toInt ≤ 1) ∧ ((r2.toInt = 0 ∧ ((x1).toInt64.toInt < (0 : Int64).toInt ∨ ((m.1 72 21)).toInt64.toInt < (x1).toInt64.toInt)) ∨ (r2.toInt = 1 ∧ (0 : Int64).toInt ≤ (x1).toInt64.toInt ∧ (x1).toInt64.toInt ≤ ((m.1 72 21)).toInt64.toInt)) := kr7
  refine s_eq (fun kh8 => ?_) (fun kh8 => ?_)
  · have kc9 : 0 ≤ ((sm_w1 m 72 0 (0 : Int32)).1 72 21).toInt ∧ ((sm_w1 m 72 0 (0 : Int32)).1 72 21).toInt ≤ 80 := ki6.1 72 21
    have kc10 : ((sm_w1 m 72 0 (0 : Int32)).1 72 21).toInt = (m.1 72 21).toInt := rfl
    have kf11 : Fr wX12_end m (sm_w1 m 72 0 (0 : Int32)) := Fr.w Fr.refl rfl
    exact s_ret ⟨(show (0 ≤ (0 : Int32).toInt) ∧ ((0 : Int32).toInt ≤ 1) ∧ (((0 : Int32).toInt = 0 ∧ ((sm_w1 m 72 0 (0 : Int32)).1 72 21).toInt = (m.1 72 21).toInt ∧ (x1.toInt < 0 ∨ (m.1 72 21).toInt < x1.toInt)) ∨ ((0 : Int32).toInt = 1 ∧ 0 ≤ x1.toInt ∧ x1.toInt ≤ (m.1 72 21).toInt ∧ ((sm_w1 m 72 0 (0 : Int32)).1 72 21).toInt = x1.toInt)) by omega), ki6, kf11⟩
  · have kc12 := L1
    have ki13 : zI (sm_w1 (sm_w1 m 72 0 (0 : Int32)) 72 21 x1) := zI.w ki6 rfl (show 0 ≤ (x1).toInt ∧ (x1).toInt ≤ 80 by omega)
    have kc14 : 0 ≤ ((sm_w1 (sm_w1 m 72 0 (0 : Int32)) 72 21 x1).1 72 21).toInt ∧ ((sm_w1 (sm_w1 m 72 0 (0 : Int32)) 72 21 x1).1 72 21).toInt ≤ 80 := ki13.1 72 21
    have kc15 : ((sm_w1 (sm_w1 m 72 0 (0 : Int32)) 72 21 x1).1 72 21).toInt = (x1).toInt := rfl
    have kf16 : Fr wX12_end m (sm_w1 m 72 0 (0 : Int32)) := Fr.w Fr.refl rfl
    have kf17 : Fr wX12_end m (sm_w1 (sm_w1 m 72 0 (0 : Int32)) 72 21 x1) := Fr.w kf16 rfl
    exact s_ret ⟨(show (0 ≤ (1 : Int32).toInt) ∧ ((1 : Int32).toInt ≤ 1) ∧ (((1 : Int32).toInt = 0 ∧ ((sm_w1 (sm_w1 m 72 0 (0 : Int32)) 72 21 x1).1 72 21).toInt = (m.1 72 21).toInt ∧ (x1.toInt < 0 ∨ (m.1 72 21).toInt < x1.toInt)) ∨ ((1 : Int32).toInt = 1 ∧ 0 ≤ x1.toInt ∧ x1.toInt ≤ (m.1 72 21).toInt ∧ ((sm_w1 (sm_w1 m 72 0 (0 : Int32)) 72 21 x1).1 72 21).toInt = x1.toInt)) by omega), ki13, kf17⟩
theorem zX12_begins (x1 : Int32) (m : sm_S) (hp : 30 ≤ x1.toInt ∧ x1.toInt ≤ 76) (hI : zI m) : Sf (fun r => ((0 ≤ r.1.toInt) ∧ (r.1.toInt ≤ 80) ∧ ((r.2.1 72 23).toInt ≤ x1.toInt) ∧ ((r.2.1 72 22).toInt = 0) ∧ ((r.2.1 72 21).toInt = 0)) ∧ zI r.2 ∧ Fr wX12_begins m r.2) (fX12_begins x1 m) := by
  have hfu := fuE
  unfold fX12_begins
  have kc1 : 0 ≤ (m.1 72 21).toInt ∧ (m.1 72 21).toInt ≤ 80 := hI.1 72 21
  have kc2 := L0
  have ki3 : zI (sm_w1 m 72 21 (0 : Int32)) := zI.w hI rfl (show 0 ≤ ((0 : Int32)).toInt ∧ ((0 : Int32)).toInt ≤ 80 by omega)
  have ki4 : zI (sm_w1 (sm_w1 m 72 21 (0 : Int32)) 72 22 (0 : Int32)) := zI.w ki3 rfl (show 0 ≤ ((0 : Int32)).toInt ∧ ((0 : Int32)).toInt ≤ 80 by omega)
  have kc5 : ((x1).toInt < ((m.1 72 21)).toInt ∧ (if x1 < (m.1 72 21) then x1 else (m.1 72 21)).toInt = (x1).toInt) ∨ (((m.1 72 21)).toInt ≤ (x1).toInt ∧ (if x1 < (m.1 72 21) then x1 else (m.1 72 21)).toInt = ((m.1 72 21)).toInt) := a_ilt
  have ki6 : zI (sm_w1 (sm_w1 (sm_w1 m 72 21 (0 : Int32)) 72 22 (0 : Int32)) 72 23 (if x1 < (m.1 72 21) then x1 else (m.1 72 21))) := zI.w ki4 rfl (show 0 ≤ ((if x1 < (m.1 72 21) then x1 else (m.1 72 21))).toInt ∧ ((if x1 < (m.1 72 21) then x1 else (m.1 72 21))).toInt ≤ 76 by omega)
  have kc7 : 0 ≤ ((sm_w1 (sm_w1 (sm_w1 m 72 21 (0 : Int32)) 72 22 (0 : Int32)) 72 23 (if x1 < (m.1 72 21) then x1 else (m.1 72 21))).1 72 23).toInt ∧ ((sm_w1 (sm_w1 (sm_w1 m 72 21 (0 : Int32)) 72 22 (0 : Int32)) 72 23 (if x1 < (m.1 72 21) then x1 else (m.1 72 21))).1 72 23).toInt ≤ 76 := ki6.1 72 23
  have kc8 : ((sm_w1 (sm_w1 (sm_w1 m 72 21 (0 : Int32)) 72 22 (0 : Int32)) 72 23 (if x1 < (m.1 72 21) then x1 else (m.1 72 21))).1 72 23).toInt = ((if x1 < (m.1 72 21) then x1 else (m.1 72 21))).toInt := rfl
  have kc9 : 0 ≤ ((sm_w1 (sm_w1 (sm_w1 m 72 21 (0 : Int32)) 72 22 (0 : Int32)) 72 23 (if x1 < (m.1 72 21) then x1 else (m.1 72 21))).1 72 22).toInt ∧ ((sm_w1 (sm_w1 (sm_w1 m 72 21 (0 : Int32)) 72 22 (0 : Int32)) 72 23 (if x1 < (m.1 72 21) then x1 else (m.1 72 21))).1 72 22).toInt ≤ 80 := ki6.1 72 22
  have kc10 : ((sm_w1 (sm_w1 (sm_w1 m 72 21 (0 : Int32)) 72 22 (0 : Int32)) 72 23 (if x1 < (m.1 72 21) then x1 else (m.1 72 21))).1 72 22).toInt = ((sm_w1 (sm_w1 m 72 21 (0 : Int32)) 72 22 (0 : Int32)).1 72 22).toInt := rfl
  have kc11 : 0 ≤ ((sm_w1 (sm_w1 m 72 21 (0 : Int32)) 72 22 (0 : Int32)).1 72 22).toInt ∧ ((sm_w1 (sm_w1 m 72 21 (0 : Int32)) 72 22 (0 : Int32)).1 72 22).toInt ≤ 80 := ki4.1 72 22
  have kc12 : ((sm_w1 (sm_w1 m 72 21 (0 : Int32)) 72 22 (0 : Int32)).1 72 22).toInt = ((0 : Int32)).toInt := rfl
  have kc13 : 0 ≤ ((sm_w1 (sm_w1 (sm_w1 m 72 21 (0 : Int32)) 72 22 (0 : Int32)) 72 23 (if x1 < (m.1 72 21) then x1 else (m.1 72 21))).1 72 21).toInt ∧ ((sm_w1 (sm_w1 (sm_w1 m 72 21 (0 : Int32)) 72 22 (0 : Int32)) 72 23 (if x1 < (m.1 72 21) then x1 else (m.1 72 21))).1 72 21).toInt ≤ 80 := ki6.1 72 21
  have kc14 : ((sm_w1 (sm_w1 (sm_w1 m 72 21 (0 : Int32)) 72 22 (0 : Int32)) 72 23 (if x1 < (m.1 72 21) then x1 else (m.1 72 21))).1 72 21).toInt = ((sm_w1 (sm_w1 m 72 21 (0 : Int32)) 72 22 (0 : Int32)).1 72 21).toInt := rfl
  have kc15 : 0 ≤ ((sm_w1 (sm_w1 m 72 21 (0 : Int32)) 72 22 (0 : Int32)).1 72 21).toInt ∧ ((sm_w1 (sm_w1 m 72 21 (0 : Int32)) 72 22 (0 : Int32)).1 72 21).toInt ≤ 80 := ki4.1 72 21
  have kc16 : ((sm_w1 (sm_w1 m 72 21 (0 : Int32)) 72 22 (0 : Int32)).1 72 21).toInt = ((sm_w1 m 72 21 (0 : Int32)).1 72 21).toInt := rfl
  have kc17 : 0 ≤ ((sm_w1 m 72 21 (0 : Int32)).1 72 21).toInt ∧ ((sm_w1 m 72 21 (0 : Int32)).1 72 21).toInt ≤ 80 := ki3.1 72 21
  have kc18 : ((sm_w1 m 72 21 (0 : Int32)).1 72 21).toInt = ((0 : Int32)).toInt := rfl
  have kf19 : Fr wX12_begins m (sm_w1 m 72 21 (0 : Int32)) := Fr.w Fr.refl rfl
  have kf20 : Fr wX12_begins m (sm_w1 (sm_w1 m 72 21 (0 : Int32)) 72 22 (0 : Int32)) := Fr.w kf19 rfl
  have kf21 : Fr wX12_begins m (sm_w1 (sm_w1 (sm_w1 m 72 21 (0 : Int32)) 72 22 (0 : Int32)) 72 23 (if x1 < (m.1 72 21) then x1 else (m.1 72 21))) := Fr.w kf20 rfl
  exact s_ret ⟨(show (0 ≤ (m.1 72 21).toInt) ∧ ((m.1 72 21).toInt ≤ 80) ∧ (((sm_w1 (sm_w1 (sm_w1 m 72 21 (0 : Int32)) 72 22 (0 : Int32)) 72 23 (if x1 < (m.1 72 21) then x1 else (m.1 72 21))).1 72 23).toInt ≤ x1.toInt) ∧ (((sm_w1 (sm_w1 (sm_w1 m 72 21 (0 : Int32)) 72 22 (0 : Int32)) 72 23 (if x1 < (m.1 72 21) then x1 else (m.1 72 21))).1 72 22).toInt = 0) ∧ (((sm_w1 (sm_w1 (sm_w1 m 72 21 (0 : Int32)) 72 22 (0 : Int32)) 72 23 (if x1 < (m.1 72 21) then x1 else (m.1 72 21))).1 72 21).toInt = 0) by omega), ki6, kf21⟩
theorem zX12_faultOf (x1 : Int32) (x2 : Int32) (x3 : Int32) (m : sm_S) (hp : 0 ≤ x1.toInt ∧ x1.toInt ≤ 80 ∧ 30 ≤ x2.toInt ∧ x2.toInt ≤ 76 ∧ 0 ≤ x3.toInt ∧ x3.toInt ≤ 1) (hI : zI m) : Sf (fun r => ((-81 : Int) ≤ r.toInt) ∧ (r.toInt ≤ 0)) (fX12_faultOf x1 x2 x3 m) := by
  have hfu := fuE
  unfold fX12_faultOf
  have kc1 := L0
  refine s_eq (fun kh2 => ?_) (fun kh2 => ?_)
  · refine s_le (fun kh3 => ?_) (fun kh3 => ?_)
    · have kc4 := Ln1
      have kc5 : 0 ≤ (m.1 72 22).toInt ∧ (m.1 72 22).toInt ≤ 80 := hI.1 72 22
      have kc6 : ((-1 : Int32) - (m.1 72 22)).toInt = ((-1 : Int32)).toInt - ((m.1 72 22)).toInt := a_sub (by omega) (by omega)
      exact s_ret (show ((-81 : Int) ≤ ((-1 : Int32) - (m.1 72 22)).toInt) ∧ (((-1 : Int32) - (m.1 72 22)).toInt ≤ 0) by omega)
    · have kc7 : 0 ≤ (m.1 72 22).toInt ∧ (m.1 72 22).toInt ≤ 80 := hI.1 72 22
      refine s_lt (fun kh8 => ?_) (fun kh8 => ?_)
      · have kc9 := Ln1
        have kc10 : ((-1 : Int32) - (m.1 72 22)).toInt = ((-1 : Int32)).toInt - ((m.1 72 22)).toInt := a_sub (by omega) (by omega)
        exact s_ret (show ((-81 : Int) ≤ ((-1 : Int32) - (m.1 72 22)).toInt) ∧ (((-1 : Int32) - (m.1 72 22)).toInt ≤ 0) by omega)
      · have kc11 := Ln1
        have kc12 : ((-1 : Int32) - x2).toInt = ((-1 : Int32)).toInt - (x2).toInt := a_sub (by omega) (by omega)
        exact s_ret (show ((-81 : Int) ≤ ((-1 : Int32) - x2).toInt) ∧ (((-1 : Int32) - x2).toInt ≤ 0) by omega)
  · have kc13 : 0 ≤ (m.1 72 22).toInt ∧ (m.1 72 22).toInt ≤ 80 := hI.1 72 22
    have kc14 : 0 ≤ (m.1 72 23).toInt ∧ (m.1 72 23).toInt ≤ 76 := hI.1 72 23
    refine s_eq (fun kh15 => ?_) (fun kh15 => ?_)
    · refine s_le (fun kh16 => ?_) (fun kh16 => ?_)
      · exact s_ret (show ((-81 : Int) ≤ (0 : Int32).toInt) ∧ ((0 : Int32).toInt ≤ 0) by omega)
      · have kc17 := Ln1
        have kc18 : ((-1 : Int32) - x2).toInt = ((-1 : Int32)).toInt - (x2).toInt := a_sub (by omega) (by omega)
        exact s_ret (show ((-81 : Int) ≤ ((-1 : Int32) - x2).toInt) ∧ (((-1 : Int32) - x2).toInt ≤ 0) by omega)
    · refine s_le (fun kh19 => ?_) (fun kh19 => ?_)
      · have kc20 := Ln1
        have kc21 : ((-1 : Int32) - (m.1 72 22)).toInt = ((-1 : Int32)).toInt - ((m.1 72 22)).toInt := a_sub (by omega) (by omega)
        exact s_ret (show ((-81 : Int) ≤ ((-1 : Int32) - (m.1 72 22)).toInt) ∧ (((-1 : Int32) - (m.1 72 22)).toInt ≤ 0) by omega)
      · refine s_lt (fun kh22 => ?_) (fun kh22 => ?_)
        · have kc23 := Ln1
          have kc24 : ((-1 : Int32) - (m.1 72 22)).toInt = ((-1 : Int32)).toInt - ((m.1 72 22)).toInt := a_sub (by omega) (by omega)
          exact s_ret (show ((-81 : Int) ≤ ((-1 : Int32) - (m.1 72 22)).toInt) ∧ (((-1 : Int32) - (m.1 72 22)).toInt ≤ 0) by omega)
        · have kc25 := Ln1
          have kc26 : ((-1 : Int32) - x2).toInt = ((-1 : Int32)).toInt - (x2).toInt := a_sub (by omega) (by omega)
          exact s_ret (show ((-81 : Int) ≤ ((-1 : Int32) - x2).toInt) ∧ (((-1 : Int32) - x2).toInt ≤ 0) by omega)
theorem zX12_isAt (x1 : Int32) (m : sm_S) (hp : 64 ≤ x1.toInt ∧ x1.toInt ≤ 64) (hI : zI m) : Sf (fun r => (0 ≤ r.toInt) ∧ (r.toInt ≤ 1)) (fX12_isAt x1 m) := by
  have hfu := fuE
  unfold fX12_isAt
  have kc1 : 0 ≤ (m.1 72 23).toInt ∧ (m.1 72 23).toInt ≤ 76 := hI.1 72 23
  have kc2 : 0 ≤ (m.1 72 22).toInt ∧ (m.1 72 22).toInt ≤ 80 := hI.1 72 22
  refine s_le (fun kh3 => ?_) (fun kh3 => ?_)
  · have kc4 := L0
    exact s_ret (show (0 ≤ (0 : Int32).toInt) ∧ ((0 : Int32).toInt ≤ 1) by omega)
  · have kx5 : 0 ≤ ((m.1 72 22)).toInt ∧ ((m.1 72 22)).toInt < (80 : Int) := by omega
    refine s_ix kx5 ?_
    have kc6 : 0 ≤ (m.1 84 ((m.1 72 22)).toNatClampNeg).toInt ∧ (m.1 84 ((m.1 72 22)).toNatClampNeg).toInt ≤ 255 := hI.1 84 ((m.1 72 22)).toNatClampNeg
    refine s_eq (fun kh7 => ?_) (fun kh7 => ?_)
    · have kc8 := L1
      exact s_ret (show (0 ≤ (1 : Int32).toInt) ∧ ((1 : Int32).toInt ≤ 1) by omega)
    · have kc9 := L0
      exact s_ret (show (0 ≤ (0 : Int32).toInt) ∧ ((0 : Int32).toInt ≤ 1) by omega)
theorem zX12_cornerBut (x1 : Int32) (m : sm_S) (hp : (-1 : Int) ≤ x1.toInt ∧ x1.toInt ≤ 9) (hI : zI m) : Sf (fun r => (((-1 : Int) ≤ r.1.toInt) ∧ (r.1.toInt ≤ 9) ∧ ((r.1.toInt < 0 ∧ (r.2.1 72 22).toInt = (m.1 72 22).toInt) ∨ (0 ≤ r.1.toInt ∧ (m.1 72 22).toInt < (m.1 72 23).toInt ∧ (r.2.1 72 22).toInt = (m.1 72 22).toInt + 1))) ∧ zI r.2 ∧ Fr wX12_cornerBut m r.2) (fX12_cornerBut x1 m) := by
  have hfu := fuE
  unfold fX12_cornerBut
  simp only [a_asc]
  have kc1 : 0 ≤ (m.1 72 23).toInt ∧ (m.1 72 23).toInt ≤ 76 := hI.1 72 23
  have kc2 : 0 ≤ (m.1 72 22).toInt ∧ (m.1 72 22).toInt ≤ 80 := hI.1 72 22
  refine s_le (fun kh3 => ?_) (fun kh3 => ?_)
  · have kc4 := Ln1
    exact s_ret ⟨(show ((-1 : Int) ≤ (-1 : Int32).toInt) ∧ ((-1 : Int32).toInt ≤ 9) ∧ (((-1 : Int32).toInt < 0 ∧ (m.1 72 22).toInt = (m.1 72 22).toInt) ∨ (0 ≤ (-1 : Int32).toInt ∧ (m.1 72 22).toInt < (m.1 72 23).toInt ∧ (m.1 72 22).toInt = (m.1 72 22).toInt + 1)) by omega), hI, Fr.refl⟩
  · have kx5 : 0 ≤ ((m.1 72 22)).toInt ∧ ((m.1 72 22)).toInt < (80 : Int) := by omega
    refine s_ix kx5 ?_
    have kc6 : 0 ≤ (m.1 84 ((m.1 72 22)).toNatClampNeg).toInt ∧ (m.1 84 ((m.1 72 22)).toNatClampNeg).toInt ≤ 255 := hI.1 84 ((m.1 72 22)).toNatClampNeg
    have kc7 : ((m.1 84 ((m.1 72 22)).toNatClampNeg) - (97 : Int32)).toInt = ((m.1 84 ((m.1 72 22)).toNatClampNeg)).toInt - 97 := a_subl L97 (by omega) (by omega)
    have kc8 : (((m.1 84 ((m.1 72 22)).toNatClampNeg) - (97 : Int32))).toInt64.toInt = (((m.1 84 ((m.1 72 22)).toNatClampNeg) - (97 : Int32))).toInt := Int32.toInt_toInt64 _
    have kc9 := LL0
    have kc10 : 0 ≤ (m.1 72 24).toInt ∧ (m.1 72 24).toInt ≤ 10 := hI.1 72 24
    have kc11 : ((m.1 72 24) - (1 : Int32)).toInt = ((m.1 72 24)).toInt - 1 := a_subl L1 (by omega) (by omega)
    have kc12 : (((m.1 72 24) - (1 : Int32))).toInt64.toInt = (((m.1 72 24) - (1 : Int32))).toInt := Int32.toInt_toInt64 _
    refine s_bd (zX12_in (((m.1 84 ((m.1 72 22)).toNatClampNeg) - (97 : Int32))).toInt64 (0 : Int64) (((m.1 72 24) - (1 : Int32))).toInt64 m (show (-1 : Int) ≤ (0 : Int64).toInt ∧ (0 : Int64).toInt ≤ 48 ∧ (-1 : Int) ≤ (((m.1 72 24) - (1 : Int32))).toInt64.toInt ∧ (((m.1 72 24) - (1 : Int32))).toInt64.toInt ≤ 9999 by omega) hI) (fun r3 kr13 => ?_)
    replace kr13 : (0 ≤ r3.toInt) ∧ (r3.toInt ≤ 1) ∧ ((r3.toInt = 0 ∧ ((((m.1 84 ((m.1 72 22)).toNatClampNeg) - (97 : Int32))).toInt64.toInt < (0 : Int64).toInt ∨ (((m.1 72 24) - (1 : Int32))).toInt64.toInt < (((m.1 84 ((m.1 72 22)).toNatClampNeg) - (97 : Int32))).toInt64.toInt)) ∨ (r3.toInt = 1 ∧ (0 : Int64).toInt ≤ (((m.1 84 ((m.1 72 22)).toNatClampNeg) - (97 : Int32))).toInt64.toInt ∧ (((m.1 84 ((m.1 72 22)).toNatClampNeg) - (97 : Int32))).toInt64.toInt ≤ (((m.1 72 24) - (1 : Int32))).toInt64.toInt)) := kr13
    have kc14 := L0
    refine s_eq (fun kh15 => ?_) (fun kh15 => ?_)
    · have kc16 := Ln1
      exact s_ret ⟨(show ((-1 : Int) ≤ (-1 : Int32).toInt) ∧ ((-1 : Int32).toInt ≤ 9) ∧ (((-1 : Int32).toInt < 0 ∧ (m.1 72 22).toInt = (m.1 72 22).toInt) ∨ (0 ≤ (-1 : Int32).toInt ∧ (m.1 72 22).toInt < (m.1 72 23).toInt ∧ (m.1 72 22).toInt = (m.1 72 22).toInt + 1)) by omega), hI, Fr.refl⟩
    · refine s_ix kx5 ?_
      refine s_eq (fun kh17 => ?_) (fun kh17 => ?_)
      · have kc18 := Ln1
        exact s_ret ⟨(show ((-1 : Int) ≤ (-1 : Int32).toInt) ∧ ((-1 : Int32).toInt ≤ 9) ∧ (((-1 : Int32).toInt < 0 ∧ (m.1 72 22).toInt = (m.1 72 22).toInt) ∨ (0 ≤ (-1 : Int32).toInt ∧ (m.1 72 22).toInt < (m.1 72 23).toInt ∧ (m.1 72 22).toInt = (m.1 72 22).toInt + 1)) by omega), hI, Fr.refl⟩
      · refine s_ix kx5 ?_
        have kc19 : ((m.1 72 22) + (1 : Int32)).toInt = ((m.1 72 22)).toInt + 1 := a_addl L1 (by omega) (by omega)
        have ki20 : zI (sm_w1 m 72 22 ((m.1 72 22) + (1 : Int32))) := zI.w hI rfl (show 0 ≤ (((m.1 72 22) + (1 : Int32))).toInt ∧ (((m.1 72 22) + (1 : Int32))).toInt ≤ 80 by omega)
        have kc21 : 0 ≤ ((sm_w1 m 72 22 ((m.1 72 22) + (1 : Int32))).1 72 22).toInt ∧ ((sm_w1 m 72 22 ((m.1 72 22) + (1 : Int32))).1 72 22).toInt ≤ 80 := ki20.1 72 22
        have kc22 : ((sm_w1 m 72 22 ((m.1 72 22) + (1 : Int32))).1 72 22).toInt = (((m.1 72 22) + (1 : Int32))).toInt := rfl
        have kf23 : Fr wX12_cornerBut m (sm_w1 m 72 22 ((m.1 72 22) + (1 : Int32))) := Fr.w Fr.refl rfl
        exact s_ret ⟨(show ((-1 : Int) ≤ ((m.1 84 ((m.1 72 22)).toNatClampNeg) - (97 : Int32)).toInt) ∧ (((m.1 84 ((m.1 72 22)).toNatClampNeg) - (97 : Int32)).toInt ≤ 9) ∧ ((((m.1 84 ((m.1 72 22)).toNatClampNeg) - (97 : Int32)).toInt < 0 ∧ ((sm_w1 m 72 22 ((m.1 72 22) + (1 : Int32))).1 72 22).toInt = (m.1 72 22).toInt) ∨ (0 ≤ ((m.1 84 ((m.1 72 22)).toNatClampNeg) - (97 : Int32)).toInt ∧ (m.1 72 22).toInt < (m.1 72 23).toInt ∧ ((sm_w1 m 72 22 ((m.1 72 22) + (1 : Int32))).1 72 22).toInt = (m.1 72 22).toInt + 1)) by omega), ki20, kf23⟩
theorem zX12_cornerBut_w (x1 : Int32) (m : sm_S) (hp : (-1 : Int) ≤ x1.toInt ∧ x1.toInt ≤ 9) (hI : zI m) : Sf (fun r => (((-1 : Int) ≤ r.1.toInt) ∧ (r.1.toInt ≤ 9) ∧ ((m.1 72 22).toInt ≤ (r.2.1 72 22).toInt)) ∧ zI r.2 ∧ Fr wX12_cornerBut m r.2) (fX12_cornerBut x1 m) := by
  refine s_mono (zX12_cornerBut x1 m hp hI) (fun r hr => ?_)
  obtain ⟨h1, h2, h3⟩ := hr
  refine ⟨?_, h2, h3⟩
  omega
