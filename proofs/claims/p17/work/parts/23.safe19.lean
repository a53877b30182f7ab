theorem zX12_quarrel (m : sm_S) (hI : zI m) : Sf (fun r => (((-2 : Int) ≤ r.1.toInt) ∧ (r.1.toInt ≤ 12)) ∧ zI r.2 ∧ Fr wX12_quarrel m r.2) (fX12_quarrel m) := by
  have hfu := fuE
  unfold fX12_quarrel
  have kc1 := L0
  have ki2 : zI (sm_w1 m 72 0 (0 : Int32)) := zI.w hI rfl (show 0 ≤ ((0 : Int32)).toInt ∧ ((0 : Int32)).toInt ≤ 1 by omega)
  have kf3 : Fr wX12_quarrel m (sm_w1 m 72 0 (0 : Int32)) := Fr.w Fr.refl rfl
  exact zX12_quarrel_7 m sm_fu (0 : Int32) (sm_w1 m 72 0 (0 : Int32)) (show 0 ≤ (0 : Int32).toInt ∧ (0 : Int32).toInt ≤ 12 ∧ 12 - (0 : Int32).toInt < (sm_fu : Int) by omega) ki2 kf3
theorem zX12_keep_55 (m0 : sm_S) : ∀ (n : Nat) (v2 : Int32) (v3 : Int32) (m : sm_S), (0 ≤ v2.toInt ∧ v2.toInt ≤ 32 ∧ 0 ≤ v3.toInt ∧ v3.toInt ≤ 14 ∧ 14 - v3.toInt < (n : Int) ∧ v2.toInt % 16 = 0) → zI m → Fr wX12_keep m0 m → Sf (fun r => ((0 ≤ r.1.toInt) ∧ (r.1.toInt ≤ 1)) ∧ zI r.2 ∧ Fr wX12_keep m0 r.2) (fX12_keep_55 n v2 v3 m) := by
  intro n
  induction n with
  | zero =>
    intro v2 v3 m hp hI hF
    exfalso
    omega
  | succ n ih =>
    intro v2 v3 m hp hI hF
    have hnn : ((n + 1 : Nat) : Int) = (n : Int) + 1 := by omega
    have hfu := fuE
    unfold fX12_keep_55
    have kc1 := L14
    refine s_le (fun kh2 => ?_) (fun kh2 => ?_)
    · have kc3 := L1
      exact s_ret ⟨(show (0 ≤ (1 : Int32).toInt) ∧ ((1 : Int32).toInt ≤ 1) by omega), hI, hF⟩
    · have kc4 : 0 ≤ (m.1 72 6).toInt ∧ (m.1 72 6).toInt ≤ 14 := hI.1 72 6
      have kc5 : 0 ≤ (m.1 72 25).toInt ∧ (m.1 72 25).toInt ≤ 14 := hI.1 72 25
      have kc6 := zI.le hI
      refine s_le (fun kh7 => ?_) (fun kh7 => ?_)
      · have kc8 : (v2 + (2 : Int32)).toInt = (v2).toInt + 2 := a_addl L2 (by omega) (by omega)
        have kc9 : ((v2 + (2 : Int32)) + v3).toInt = ((v2 + (2 : Int32))).toInt + (v3).toInt := a_add (by omega) (by omega)
        have kx10 : 0 ≤ (((v2 + (2 : Int32)) + v3)).toInt ∧ (((v2 + (2 : Int32)) + v3)).toInt < (48 : Int) := by omega
        refine s_ix kx10 ?_
        have kc11 : (v3 + (1 : Int32)).toInt = (v3).toInt + 1 := a_addl L1 (by omega) (by omega)
        have kc12 := Ln1
        have ki13 : zI (sm_w1 m 106 (((v2 + (2 : Int32)) + v3)).toNatClampNeg (-1 : Int32)) := zI.w106 hI (show 0 ≤ (((v2 + (2 : Int32)) + v3)).toInt by omega) (show ((((v2 + (2 : Int32)) + v3)).toInt % 16 = 0 → 0 ≤ ((-1 : Int32)).toInt ∧ ((-1 : Int32)).toInt ≤ 9) ∧ ((((v2 + (2 : Int32)) + v3)).toInt % 16 = 1 → 0 ≤ ((-1 : Int32)).toInt ∧ ((-1 : Int32)).toInt ≤ 9999) by omega)
        have kf14 : Fr wX12_keep m0 (sm_w1 m 106 (((v2 + (2 : Int32)) + v3)).toNatClampNeg (-1 : Int32)) := Fr.w hF rfl
        exact ih v2 (v3 + (1 : Int32)) (sm_w1 m 106 (((v2 + (2 : Int32)) + v3)).toNatClampNeg (-1 : Int32)) (show 0 ≤ v2.toInt ∧ v2.toInt ≤ 32 ∧ 0 ≤ (v3 + (1 : Int32)).toInt ∧ (v3 + (1 : Int32)).toInt ≤ 14 ∧ 14 - (v3 + (1 : Int32)).toInt < (n : Int) ∧ v2.toInt % 16 = 0 by omega) ki13 kf14
      · have kx15 : 0 ≤ (v3).toInt ∧ (v3).toInt < (14 : Int) := by omega
        refine s_ix kx15 ?_
        have kc16 : (v2 + (2 : Int32)).toInt = (v2).toInt + 2 := a_addl L2 (by omega) (by omega)
        have kc17 : ((v2 + (2 : Int32)) + v3).toInt = ((v2 + (2 : Int32))).toInt + (v3).toInt := a_add (by omega) (by omega)
        have kx18 : 0 ≤ (((v2 + (2 : Int32)) + v3)).toInt ∧ (((v2 + (2 : Int32)) + v3)).toInt < (48 : Int) := by omega
        refine s_ix kx18 ?_
        have kc19 : (v3 + (1 : Int32)).toInt = (v3).toInt + 1 := a_addl L1 (by omega) (by omega)
        have ki20 : zI (sm_w1 m 106 (((v2 + (2 : Int32)) + v3)).toNatClampNeg (m.1 83 (v3).toNatClampNeg)) := zI.w106 hI (show 0 ≤ (((v2 + (2 : Int32)) + v3)).toInt by omega) (show ((((v2 + (2 : Int32)) + v3)).toInt % 16 = 0 → 0 ≤ ((m.1 83 (v3).toNatClampNeg)).toInt ∧ ((m.1 83 (v3).toNatClampNeg)).toInt ≤ 9) ∧ ((((v2 + (2 : Int32)) + v3)).toInt % 16 = 1 → 0 ≤ ((m.1 83 (v3).toNatClampNeg)).toInt ∧ ((m.1 83 (v3).toNatClampNeg)).toInt ≤ 9999) by omega)
        have kf21 : Fr wX12_keep m0 (sm_w1 m 106 (((v2 + (2 : Int32)) + v3)).toNatClampNeg (m.1 83 (v3).toNatClampNeg)) := Fr.w hF rfl
        exact ih v2 (v3 + (1 : Int32)) (sm_w1 m 106 (((v2 + (2 : Int32)) + v3)).toNatClampNeg (m.1 83 (v3).toNatClampNeg)) (show 0 ≤ v2.toInt ∧ v2.toInt ≤ 32 ∧ 0 ≤ (v3 + (1 : Int32)).toInt ∧ (v3 + (1 : Int32)).toInt ≤ 14 ∧ 14 - (v3 + (1 : Int32)).toInt < (n : Int) ∧ v2.toInt % 16 = 0 by omega) ki20 kf21
theorem zX12_keep (x1 : Int32) (m : sm_S) (hI : zI m) : Sf (fun r => ((0 ≤ r.1.toInt) ∧ (r.1.toInt ≤ 1)) ∧ zI r.2 ∧ Fr wX12_keep m r.2) (fX12_keep x1 m) := by
  have hfu := fuE
  unfold fX12_keep
  have kc1 : (x1).toInt64.toInt = (x1).toInt := Int32.toInt_toInt64 _
  have kc2 := LL0
  have kc3 := LL2
  have kc4 := L0
  have ki5 : zI (sm_w1 m 72 0 (0 : Int32)) := zI.w hI rfl (show 0 ≤ ((0 : Int32)).toInt ∧ ((0 : Int32)).toInt ≤ 1 by omega)
  refine s_bd (zX12_in (x1).toInt64 (0 : Int64) (2 : Int64) (sm_w1 m 72 0 (0 : Int32)) (show (-1 : Int) ≤ (0 : Int64).toInt ∧ (0 : Int64).toInt ≤ 48 ∧ (-1 : Int) ≤ (2 : Int64).toInt ∧ (2 : Int64).toInt ≤ 9999 by omega) ki5) (fun r2 kr6 => ?_)
  replace kr6 : (0 ≤ r2.toInt) ∧ (r2.toInt ≤ 1) ∧ ((r2.toInt = 0 ∧ ((x1).toInt64.toInt < (0 : Int64).toInt ∨ (2 : Int64).toInt < (x1).toInt64.toInt)) ∨ (r2.toInt = 1 ∧ (0 : Int64).toInt ≤ (x1).toInt64.toInt ∧ (x1).toInt64.toInt ≤ (2 : Int64).toInt)) := kr6
  refine s_eq (fun kh7 => ?_) (fun kh7 => ?_)
  · have kf8 : Fr wX12_keep m (sm_w1 m 72 0 (0 : Int32)) := Fr.w Fr.refl rfl
    exact s_ret ⟨(show (0 ≤ (0 : Int32).toInt) ∧ ((0 : Int32).toInt ≤ 1) by omega), ki5, kf8⟩
  · have kx9 : 0 ≤ (x1).toInt ∧ (x1).toInt < (3 : Int) := by omega
    refine s_ix kx9 ?_
    have kc10 := L16
    have kc11 : ((16 : Int32) * x1).toInt = 16 * (x1).toInt := a_mul L16 rfl (by omega) (by omega)
    have kx12 : 0 ≤ (((16 : Int32) * x1)).toInt ∧ (((16 : Int32) * x1)).toInt < (48 : Int) := by omega
    refine s_ix kx12 ?_
    have kc13 : (((16 : Int32) * x1) + (1 : Int32)).toInt = (((16 : Int32) * x1)).toInt + 1 := a_addl L1 (by omega) (by omega)
    have kx14 : 0 ≤ ((((16 : Int32) * x1) + (1 : Int32))).toInt ∧ ((((16 : Int32) * x1) + (1 : Int32))).toInt < (48 : Int) := by omega
    refine s_ix kx14 ?_
    have kc15 : 0 ≤ (vp_nar .boolean (1 : Int32)).toInt ∧ (vp_nar .boolean (1 : Int32)).toInt ≤ 1 := a_bool _
    have ki16 : zI (sm_w1 (sm_w1 m 72 0 (0 : Int32)) 105 (x1).toNatClampNeg (vp_nar .boolean (1 : Int32))) := zI.w ki5 rfl (show 0 ≤ ((vp_nar .boolean (1 : Int32))).toInt ∧ ((vp_nar .boolean (1 : Int32))).toInt ≤ 1 by omega)
    have kc17 : 0 ≤ (m.1 72 17).toInt ∧ (m.1 72 17).toInt ≤ 9 := hI.1 72 17
    have ki18 : zI (sm_w1 (sm_w1 (sm_w1 m 72 0 (0 : Int32)) 105 (x1).toNatClampNeg (vp_nar .boolean (1 : Int32))) 106 (((16 : Int32) * x1)).toNatClampNeg (m.1 72 17)) := zI.w106 ki16 (show 0 ≤ (((16 : Int32) * x1)).toInt by omega) (show ((((16 : Int32) * x1)).toInt % 16 = 0 → 0 ≤ ((m.1 72 17)).toInt ∧ ((m.1 72 17)).toInt ≤ 9) ∧ ((((16 : Int32) * x1)).toInt % 16 = 1 → 0 ≤ ((m.1 72 17)).toInt ∧ ((m.1 72 17)).toInt ≤ 9999) by omega)
    have kc19 : 0 ≤ (m.1 72 18).toInt ∧ (m.1 72 18).toInt ≤ 9999 := hI.1 72 18
    have ki20 : zI (sm_w1 (sm_w1 (sm_w1 (sm_w1 m 72 0 (0 : Int32)) 105 (x1).toNatClampNeg (vp_nar .boolean (1 : Int32))) 106 (((16 : Int32) * x1)).toNatClampNeg (m.1 72 17)) 106 ((((16 : Int32) * x1) + (1 : Int32))).toNatClampNeg (m.1 72 18)) := zI.w106 ki18 (show 0 ≤ ((((16 : Int32) * x1) + (1 : Int32))).toInt by omega) (show (((((16 : Int32) * x1) + (1 : Int32))).toInt % 16 = 0 → 0 ≤ ((m.1 72 18)).toInt ∧ ((m.1 72 18)).toInt ≤ 9) ∧ (((((16 : Int32) * x1) + (1 : Int32))).toInt % 16 = 1 → 0 ≤ ((m.1 72 18)).toInt ∧ ((m.1 72 18)).toInt ≤ 9999) by omega)
    have kf21 : Fr wX12_keep m (sm_w1 m 72 0 (0 : Int32)) := Fr.w Fr.refl rfl
    have kf22 : Fr wX12_keep m (sm_w1 (sm_w1 m 72 0 (0 : Int32)) 105 (x1).toNatClampNeg (vp_nar .boolean (1 : Int32))) := Fr.w kf21 rfl
    have kf23 : Fr wX12_keep m (sm_w1 (sm_w1 (sm_w1 m 72 0 (0 : Int32)) 105 (x1).toNatClampNeg (vp_nar .boolean (1 : Int32))) 106 (((16 : Int32) * x1)).toNatClampNeg (m.1 72 17)) := Fr.w kf22 rfl
    have kf24 : Fr wX12_keep m (sm_w1 (sm_w1 (sm_w1 (sm_w1 m 72 0 (0 : Int32)) 105 (x1).toNatClampNeg (vp_nar .boolean (1 : Int32))) 106 (((16 : Int32) * x1)).toNatClampNeg (m.1 72 17)) 106 ((((16 : Int32) * x1) + (1 : Int32))).toNatClampNeg (m.1 72 18)) := Fr.w kf23 rfl
    exact zX12_keep_55 m sm_fu ((16 : Int32) * x1) (0 : Int32) (sm_w1 (sm_w1 (sm_w1 (sm_w1 m 72 0 (0 : Int32)) 105 (x1).toNatClampNeg (vp_nar .boolean (1 : Int32))) 106 (((16 : Int32) * x1)).toNatClampNeg (m.1 72 17)) 106 ((((16 : Int32) * x1) + (1 : Int32))).toNatClampNeg (m.1 72 18)) (show 0 ≤ ((16 : Int32) * x1).toInt ∧ ((16 : Int32) * x1).toInt ≤ 32 ∧ 0 ≤ (0 : Int32).toInt ∧ (0 : Int32).toInt ≤ 14 ∧ 14 - (0 : Int32).toInt < (sm_fu : Int) ∧ ((16 : Int32) * x1).toInt % 16 = 0 by omega) ki20 kf24
theorem zX12_again_57 (m0 : sm_S) : ∀ (n : Nat) (v2 : Int32) (v3 : Int32) (m : sm_S), (0 ≤ v2.toInt ∧ v2.toInt ≤ 32 ∧ 0 ≤ v3.toInt ∧ v3.toInt ≤ 14 ∧ 14 - v3.toInt < (n : Int)) → zI m → Fr wX12_again m0 m → Sf (fun r => ((0 ≤ r.1.toInt) ∧ (r.1.toInt ≤ 1)) ∧ zI r.2 ∧ Fr wX12_again m0 r.2) (fX12_again_57 n v2 v3 m) := by
  intro n
  induction n with
  | zero =>
    intro v2 v3 m hp hI hF
    exfalso
    omega
  | succ n ih =>
    intro v2 v3 m hp hI hF
    have hnn : ((n + 1 : Nat) : Int) = (n : Int) + 1 := by omega
    have hfu := fuE
    unfold fX12_again_57
    have kc1 := L14
    refine s_le (fun kh2 => ?_) (fun kh2 => ?_)
    · have kc3 := L1
      have kc4 := L0
      have ki5 : zI (sm_w1 m 72 27 (0 : Int32)) := zI.w hI rfl (show 0 ≤ ((0 : Int32)).toInt ∧ ((0 : Int32)).toInt ≤ 30 by omega)
      have kf6 : Fr wX12_again m0 (sm_w1 m 72 27 (0 : Int32)) := Fr.w hF rfl
      exact s_ret ⟨(show (0 ≤ (1 : Int32).toInt) ∧ ((1 : Int32).toInt ≤ 1) by omega), ki5, kf6⟩
    · have kc7 : (v2 + (2 : Int32)).toInt = (v2).toInt + 2 := a_addl L2 (by omega) (by omega)
      have kc8 : ((v2 + (2 : Int32)) + v3).toInt = ((v2 + (2 : Int32))).toInt + (v3).toInt := a_add (by omega) (by omega)
      have kx9 : 0 ≤ (((v2 + (2 : Int32)) + v3)).toInt ∧ (((v2 + (2 : Int32)) + v3)).toInt < (48 : Int) := by omega
      refine s_ix kx9 ?_
      have kx10 : 0 ≤ (v3).toInt ∧ (v3).toInt < (14 : Int) := by omega
      refine s_ix kx10 ?_
      have kc11 : (v3 + (1 : Int32)).toInt = (v3).toInt + 1 := a_addl L1 (by omega) (by omega)
      have kc12 := zI.k106 hI ((v2 + (2 : Int32)) + v3)
      have ki13 : zI (sm_w1 m 83 (v3).toNatClampNeg (m.1 106 (((v2 + (2 : Int32)) + v3)).toNatClampNeg)) := zI.w hI rfl (rg _)
      have kf14 : Fr wX12_again m0 (sm_w1 m 83 (v3).toNatClampNeg (m.1 106 (((v2 + (2 : Int32)) + v3)).toNatClampNeg)) := Fr.w hF rfl
      exact ih v2 (v3 + (1 : Int32)) (sm_w1 m 83 (v3).toNatClampNeg (m.1 106 (((v2 + (2 : Int32)) + v3)).toNatClampNeg)) (show 0 ≤ v2.toInt ∧ v2.toInt ≤ 32 ∧ 0 ≤ (v3 + (1 : Int32)).toInt ∧ (v3 + (1 : Int32)).toInt ≤ 14 ∧ 14 - (v3 + (1 : Int32)).toInt < (n : Int) by omega) ki13 kf14
theorem zX12_again (x1 : Int32) (m : sm_S) (hI : zI m) : Sf (fun r => ((0 ≤ r.1.toInt) ∧ (r.1.toInt ≤ 1)) ∧ zI r.2 ∧ Fr wX12_again m r.2) (fX12_again x1 m) := by
  have hfu := fuE
  unfold fX12_again
  have kc1 : (x1).toInt64.toInt = (x1).toInt := Int32.toInt_toInt64 _
  have kc2 := LL0
  have kc3 := LL2
  have kc4 := L0
  have ki5 : zI (sm_w1 m 72 0 (0 : Int32)) := zI.w hI rfl (show 0 ≤ ((0 : Int32)).toInt ∧ ((0 : Int32)).toInt ≤ 1 by omega)
  refine s_bd (zX12_in (x1).toInt64 (0 : Int64) (2 : Int64) (sm_w1 m 72 0 (0 : Int32)) (show (-1 : Int) ≤ (0 : Int64).toInt ∧ (0 : Int64).toInt ≤ 48 ∧ (-1 : Int) ≤ (2 : Int64).toInt ∧ (2 : Int64).toInt ≤ 9999 by omega) ki5) (fun r2 kr6 => ?_)
  replace kr6 : (0 ≤ r2.toInt) ∧ (r2.toInt ≤ 1) ∧ ((r2.toInt = 0 ∧ ((x1).toInt64.toInt < (0 : Int64).toInt ∨ (2 : Int64).toInt < (x1).toInt64.toInt)) ∨ (r2.toInt = 1 ∧ (0 : Int64).toInt ≤ (x1).toInt64.toInt ∧ (x1).toInt64.toInt ≤ (2 : Int64).toInt)) := kr6
  refine s_eq (fun kh7 => ?_) (fun kh7 => ?_)
  · have kf8 : Fr wX12_again m (sm_w1 m 72 0 (0 : Int32)) := Fr.w Fr.refl rfl
    exact s_ret ⟨(show (0 ≤ (0 : Int32).toInt) ∧ ((0 : Int32).toInt ≤ 1) by omega), ki5, kf8⟩
  · have kx9 : 0 ≤ (x1).toInt ∧ (x1).toInt < (3 : Int) := by omega
    refine s_ix kx9 ?_
    have kc10 : 0 ≤ (m.1 105 (x1).toNatClampNeg).toInt ∧ (m.1 105 (x1).toNatClampNeg).toInt ≤ 1 := hI.1 105 (x1).toNatClampNeg
    refine s_eq (fun kh11 => ?_) (fun kh11 => ?_)
    · have kf12 : Fr wX12_again m (sm_w1 m 72 0 (0 : Int32)) := Fr.w Fr.refl rfl
      exact s_ret ⟨(show (0 ≤ (0 : Int32).toInt) ∧ ((0 : Int32).toInt ≤ 1) by omega), ki5, kf12⟩
    · have kc13 := L16
      have kc14 : ((16 : Int32) * x1).toInt = 16 * (x1).toInt := a_mul L16 rfl (by omega) (by omega)
      have kx15 : 0 ≤ (((16 : Int32) * x1)).toInt ∧ (((16 : Int32) * x1)).toInt < (48 : Int) := by omega
      refine s_ix kx15 ?_
      have kc16 : (((16 : Int32) * x1) + (1 : Int32)).toInt = (((16 : Int32) * x1)).toInt + 1 := a_addl L1 (by omega) (by omega)
      have kx17 : 0 ≤ ((((16 : Int32) * x1) + (1 : Int32))).toInt ∧ ((((16 : Int32) * x1) + (1 : Int32))).toInt < (48 : Int) := by omega
      refine s_ix kx17 ?_
      have kc18 := zI.k106 hI ((16 : Int32) * x1)
      have ki19 : zI (sm_w1 (sm_w1 m 72 0 (0 : Int32)) 72 17 (m.1 106 (((16 : Int32) * x1)).toNatClampNeg)) := zI.w ki5 rfl (show 0 ≤ ((m.1 106 (((16 : Int32) * x1)).toNatClampNeg)).toInt ∧ ((m.1 106 (((16 : Int32) * x1)).toNatClampNeg)).toInt ≤ 9 by omega)
      have kc20 := zI.k106 hI (((16 : Int32) * x1) + (1 : Int32))
      have ki21 : zI (sm_w1 (sm_w1 (sm_w1 m 72 0 (0 : Int32)) 72 17 (m.1 106 (((16 : Int32) * x1)).toNatClampNeg)) 72 18 (m.1 106 ((((16 : Int32) * x1) + (1 : Int32))).toNatClampNeg)) := zI.w ki19 rfl (show 0 ≤ ((m.1 106 ((((16 : Int32) * x1) + (1 : Int32))).toNatClampNeg)).toInt ∧ ((m.1 106 ((((16 : Int32) * x1) + (1 : Int32))).toNatClampNeg)).toInt ≤ 9999 by omega)
      have kf22 : Fr wX12_again m (sm_w1 m 72 0 (0 : Int32)) := Fr.w Fr.refl rfl
      have kf23 : Fr wX12_again m (sm_w1 (sm_w1 m 72 0 (0 : Int32)) 72 17 (m.1 106 (((16 : Int32) * x1)).toNatClampNeg)) := Fr.w kf22 rfl
      have kf24 : Fr wX12_again m (sm_w1 (sm_w1 (sm_w1 m 72 0 (0 : Int32)) 72 17 (m.1 106 (((16 : Int32) * x1)).toNatClampNeg)) 72 18 (m.1 106 ((((16 : Int32) * x1) + (1 : Int32))).toNatClampNeg)) := Fr.w kf23 rfl
      exact zX12_again_57 m sm_fu ((16 : Int32) * x1) (0 : Int32) (sm_w1 (sm_w1 (sm_w1 m 72 0 (0 : Int32)) 72 17 (m.1 106 (((16 : Int32) * x1)).toNatClampNeg)) 72 18 (m.1 106 ((((16 : Int32) * x1) + (1 : Int32))).toNatClampNeg)) (show 0 ≤ ((16 : Int32) * x1).toInt ∧ ((16 : Int32) * x1).toInt ≤ 32 ∧ 0 ≤ (0 : Int32).toInt ∧ (0 : Int32).toInt ≤ 14 ∧ 14 - (0 : Int32).toInt < (sm_fu : Int) by omega) ki21 kf24
theorem zX12_count (x1 : Int32) (m : sm_S) (hI : zI m) : Sf (fun r => (((-1 : Int) ≤ r.1.toInt) ∧ (r.1.toInt ≤ 9999)) ∧ zI r.2 ∧ Fr wX12_count m r.2) (fX12_count x1 m) := by
  have hfu := fuE
  unfold fX12_count
  have kc1 := L0
  refine s_eq (fun kh2 => ?_) (fun kh2 => ?_)
  · have kc3 : 0 ≤ (m.1 72 3).toInt ∧ (m.1 72 3).toInt ≤ 10 := hI.1 72 3
    have ki4 : zI (sm_w1 m 72 0 (0 : Int32)) := zI.w hI rfl (show 0 ≤ ((0 : Int32)).toInt ∧ ((0 : Int32)).toInt ≤ 1 by omega)
    have kf5 : Fr wX12_count m (sm_w1 m 72 0 (0 : Int32)) := Fr.w Fr.refl rfl
    exact s_ret ⟨(show ((-1 : Int) ≤ (m.1 72 3).toInt) ∧ ((m.1 72 3).toInt ≤ 9999) by omega), ki4, kf5⟩
  · have kc6 := L1
    refine s_eq (fun kh7 => ?_) (fun kh7 => ?_)
    · have kc8 : 0 ≤ (m.1 72 6).toInt ∧ (m.1 72 6).toInt ≤ 14 := hI.1 72 6
      have kc9 : 0 ≤ (m.1 72 25).toInt ∧ (m.1 72 25).toInt ≤ 14 := hI.1 72 25
      have kc10 := zI.le hI
      have ki11 : zI (sm_w1 m 72 0 (0 : Int32)) := zI.w hI rfl (show 0 ≤ ((0 : Int32)).toInt ∧ ((0 : Int32)).toInt ≤ 1 by omega)
      have kf12 : Fr wX12_count m (sm_w1 m 72 0 (0 : Int32)) := Fr.w Fr.refl rfl
      exact s_ret ⟨(show ((-1 : Int) ≤ (m.1 72 6).toInt) ∧ ((m.1 72 6).toInt ≤ 9999) by omega), ki11, kf12⟩
    · have kc13 := L2
      refine s_eq (fun kh14 => ?_) (fun kh14 => ?_)
      · have kc15 : 0 ≤ (m.1 72 3).toInt ∧ (m.1 72 3).toInt ≤ 10 := hI.1 72 3
        refine s_eq (fun kh16 => ?_) (fun kh16 => ?_)
        · have kc17 := Ln1
          have ki18 : zI (sm_w1 m 72 0 (0 : Int32)) := zI.w hI rfl (show 0 ≤ ((0 : Int32)).toInt ∧ ((0 : Int32)).toInt ≤ 1 by omega)
          have kf19 : Fr wX12_count m (sm_w1 m 72 0 (0 : Int32)) := Fr.w Fr.refl rfl
          exact s_ret ⟨(show ((-1 : Int) ≤ (-1 : Int32).toInt) ∧ ((-1 : Int32).toInt ≤ 9999) by omega), ki18, kf19⟩
        · have kc20 : 0 ≤ (m.1 72 17).toInt ∧ (m.1 72 17).toInt ≤ 9 := hI.1 72 17
          have ki21 : zI (sm_w1 m 72 0 (0 : Int32)) := zI.w hI rfl (show 0 ≤ ((0 : Int32)).toInt ∧ ((0 : Int32)).toInt ≤ 1 by omega)
          have kf22 : Fr wX12_count m (sm_w1 m 72 0 (0 : Int32)) := Fr.w Fr.refl rfl
          exact s_ret ⟨(show ((-1 : Int) ≤ (m.1 72 17).toInt) ∧ ((m.1 72 17).toInt ≤ 9999) by omega), ki21, kf22⟩
      · have kc23 := L3
        refine s_eq (fun kh24 => ?_) (fun kh24 => ?_)
        · have kc25 : 0 ≤ (m.1 72 18).toInt ∧ (m.1 72 18).toInt ≤ 9999 := hI.1 72 18
          have ki26 : zI (sm_w1 m 72 0 (0 : Int32)) := zI.w hI rfl (show 0 ≤ ((0 : Int32)).toInt ∧ ((0 : Int32)).toInt ≤ 1 by omega)
          have kf27 : Fr wX12_count m (sm_w1 m 72 0 (0 : Int32)) := Fr.w Fr.refl rfl
          exact s_ret ⟨(show ((-1 : Int) ≤ (m.1 72 18).toInt) ∧ ((m.1 72 18).toInt ≤ 9999) by omega), ki26, kf27⟩
        · have kc28 := L4
          refine s_eq (fun kh29 => ?_) (fun kh29 => ?_)
          · have kc30 : 0 ≤ (m.1 72 27).toInt ∧ (m.1 72 27).toInt ≤ 30 := hI.1 72 27
            have ki31 : zI (sm_w1 m 72 0 (0 : Int32)) := zI.w hI rfl (show 0 ≤ ((0 : Int32)).toInt ∧ ((0 : Int32)).toInt ≤ 1 by omega)
            have kf32 : Fr wX12_count m (sm_w1 m 72 0 (0 : Int32)) := Fr.w Fr.refl rfl
            exact s_ret ⟨(show ((-1 : Int) ≤ (m.1 72 27).toInt) ∧ ((m.1 72 27).toInt ≤ 9999) by omega), ki31, kf32⟩
          · have kc33 := L5
            refine s_eq (fun kh34 => ?_) (fun kh34 => ?_)
            · have kc35 : 0 ≤ (m.1 72 51).toInt ∧ (m.1 72 51).toInt ≤ 12 := hI.1 72 51
              have ki36 : zI (sm_w1 m 72 0 (0 : Int32)) := zI.w hI rfl (show 0 ≤ ((0 : Int32)).toInt ∧ ((0 : Int32)).toInt ≤ 1 by omega)
              have kf37 : Fr wX12_count m (sm_w1 m 72 0 (0 : Int32)) := Fr.w Fr.refl rfl
              exact s_ret ⟨(show ((-1 : Int) ≤ (m.1 72 51).toInt) ∧ ((m.1 72 51).toInt ≤ 9999) by omega), ki36, kf37⟩
            · have kc38 := L6
              refine s_eq (fun kh39 => ?_) (fun kh39 => ?_)
              · have kc40 : 0 ≤ (m.1 72 1).toInt ∧ (m.1 72 1).toInt ≤ 24 := hI.1 72 1
                have ki41 : zI (sm_w1 m 72 0 (0 : Int32)) := zI.w hI rfl (show 0 ≤ ((0 : Int32)).toInt ∧ ((0 : Int32)).toInt ≤ 1 by omega)
                have kf42 : Fr wX12_count m (sm_w1 m 72 0 (0 : Int32)) := Fr.w Fr.refl rfl
                exact s_ret ⟨(show ((-1 : Int) ≤ (m.1 72 1).toInt) ∧ ((m.1 72 1).toInt ≤ 9999) by omega), ki41, kf42⟩
              · have kc43 := L7
                refine s_eq (fun kh44 => ?_) (fun kh44 => ?_)
                · have kc45 : 0 ≤ (m.1 72 21).toInt ∧ (m.1 72 21).toInt ≤ 80 := hI.1 72 21
                  have ki46 : zI (sm_w1 m 72 0 (0 : Int32)) := zI.w hI rfl (show 0 ≤ ((0 : Int32)).toInt ∧ ((0 : Int32)).toInt ≤ 1 by omega)
                  have kf47 : Fr wX12_count m (sm_w1 m 72 0 (0 : Int32)) := Fr.w Fr.refl rfl
                  exact s_ret ⟨(show ((-1 : Int) ≤ (m.1 72 21).toInt) ∧ ((m.1 72 21).toInt ≤ 9999) by omega), ki46, kf47⟩
                · have kc48 := L8
                  refine s_eq (fun kh49 => ?_) (fun kh49 => ?_)
                  · have kc50 : 0 ≤ (m.1 72 15).toInt ∧ (m.1 72 15).toInt ≤ 99 := hI.1 72 15
                    have ki51 : zI (sm_w1 m 72 0 (0 : Int32)) := zI.w hI rfl (show 0 ≤ ((0 : Int32)).toInt ∧ ((0 : Int32)).toInt ≤ 1 by omega)
                    have kf52 : Fr wX12_count m (sm_w1 m 72 0 (0 : Int32)) := Fr.w Fr.refl rfl
                    exact s_ret ⟨(show ((-1 : Int) ≤ (m.1 72 15).toInt) ∧ ((m.1 72 15).toInt ≤ 9999) by omega), ki51, kf52⟩
                  · have kc53 := L9
                    refine s_eq (fun kh54 => ?_) (fun kh54 => ?_)
                    · have kc55 : 0 ≤ (m.1 72 16).toInt ∧ (m.1 72 16).toInt ≤ 9999 := hI.1 72 16
                      have ki56 : zI (sm_w1 m 72 0 (0 : Int32)) := zI.w hI rfl (show 0 ≤ ((0 : Int32)).toInt ∧ ((0 : Int32)).toInt ≤ 1 by omega)
                      have kf57 : Fr wX12_count m (sm_w1 m 72 0 (0 : Int32)) := Fr.w Fr.refl rfl
                      exact s_ret ⟨(show ((-1 : Int) ≤ (m.1 72 16).toInt) ∧ ((m.1 72 16).toInt ≤ 9999) by omega), ki56, kf57⟩
                    · have kc58 := Ln1
                      have ki59 : zI (sm_w1 m 72 0 (0 : Int32)) := zI.w hI rfl (show 0 ≤ ((0 : Int32)).toInt ∧ ((0 : Int32)).toInt ≤ 1 by omega)
                      have kf60 : Fr wX12_count m (sm_w1 m 72 0 (0 : Int32)) := Fr.w Fr.refl rfl
                      exact s_ret ⟨(show ((-1 : Int) ≤ (-1 : Int32).toInt) ∧ ((-1 : Int32).toInt ≤ 9999) by omega), ki59, kf60⟩
theorem zX12_row (x1 : Int32) (m : sm_S) (hI : zI m) : Sf (fun r => (True) ∧ zI r.2 ∧ Fr wX12_row m r.2) (fX12_row x1 m) := by
  have hfu := fuE
  unfold fX12_row
  have kc1 : (x1).toInt64.toInt = (x1).toInt := Int32.toInt_toInt64 _
  have kc2 := LL0
  have kc3 : 0 ≤ (m.1 72 1).toInt ∧ (m.1 72 1).toInt ≤ 24 := hI.1 72 1
  have kc4 : ((m.1 72 1) - (1 : Int32)).toInt = ((m.1 72 1)).toInt - 1 := a_subl L1 (by omega) (by omega)
  have kc5 : (((m.1 72 1) - (1 : Int32))).toInt64.toInt = (((m.1 72 1) - (1 : Int32))).toInt := Int32.toInt_toInt64 _
  have kc6 := L0
  have ki7 : zI (sm_w1 m 72 0 (0 : Int32)) := zI.w hI rfl (show 0 ≤ ((0 : Int32)).toInt ∧ ((0 : Int32)).toInt ≤ 1 by omega)
  refine s_bd (zX12_in (x1).toInt64 (0 : Int64) (((m.1 72 1) - (1 : Int32))).toInt64 (sm_w1 m 72 0 (0 : Int32)) (show (-1 : Int) ≤ (0 : Int64).toInt ∧ (0 : Int64).toInt ≤ 48 ∧ (-1 : Int) ≤ (((m.1 72 1) - (1 : Int32))).toInt64.toInt ∧ (((m.1 72 1) - (1 : Int32))).toInt64.toInt ≤ 9999 by omega) ki7) (fun r2 kr8 => ?_)
  replace kr8 : (0 ≤ r2.toInt) ∧ (r2.toInt ≤ 1) ∧ ((r2.toInt = 0 ∧ ((x1).toInt64.toInt < (0 : Int64).toInt ∨ (((m.1 72 1) - (1 : Int32))).toInt64.toInt < (x1).toInt64.toInt)) ∨ (r2.toInt = 1 ∧ (0 : Int64).toInt ≤ (x1).toInt64.toInt ∧ (x1).toInt64.toInt ≤ (((m.1 72 1) - (1 : Int32))).toInt64.toInt)) := kr8
  refine s_eq (fun kh9 => ?_) (fun kh9 => ?_)
  · have kc10 := L1
    have ki11 : zI (sm_w1 (sm_w1 m 72 0 (0 : Int32)) 72 0 (1 : Int32)) := zI.w ki7 rfl (show 0 ≤ ((1 : Int32)).toInt ∧ ((1 : Int32)).toInt ≤ 1 by omega)
    have kf12 : Fr wX12_row m (sm_w1 m 72 0 (0 : Int32)) := Fr.w Fr.refl rfl
    have kf13 : Fr wX12_row m (sm_w1 (sm_w1 m 72 0 (0 : Int32)) 72 0 (1 : Int32)) := Fr.w kf12 rfl
    exact s_ret ⟨trivial, ki11, kf13⟩
  · have kx14 : 0 ≤ (x1).toInt ∧ (x1).toInt < (24 : Int) := by omega
    refine s_ix kx14 ?_
    have kf15 : Fr wX12_row m (sm_w1 m 72 0 (0 : Int32)) := Fr.w Fr.refl rfl
    exact s_ret ⟨trivial, ki7, kf15⟩
