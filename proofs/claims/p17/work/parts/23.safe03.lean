theorem zX11_can (m : sm_S) (hI : zI m) : Sf (fun r => (0 ≤ r.toInt) ∧ (r.toInt ≤ 16383)) (fX11_can m) := by
  have hfu := fuE
  unfold fX11_can
  have kc1 := L0
  exact zX11_can_4 sm_fu (0 : Int32) (0 : Int32) m (show 0 ≤ (0 : Int32).toInt ∧ (0 : Int32).toInt ≤ 16383 ∧ 0 ≤ (0 : Int32).toInt ∧ (0 : Int32).toInt ≤ 14 ∧ 14 - (0 : Int32).toInt < (sm_fu : Int) by omega) hI
theorem zX9_schedule_19 (m0 : sm_S) : ∀ (n : Nat) (v2 : Int32) (m : sm_S), (0 ≤ v2.toInt ∧ v2.toInt ≤ 29 ∧ 29 - v2.toInt < (n : Int)) → zI m → Fr wX9_schedule m0 m → Sf (fun r => (True) ∧ zI r.2 ∧ Fr wX9_schedule m0 r.2) (fX9_schedule_19 n v2 m) := by
  intro n
  induction n with
  | zero =>
    intro v2 m hp hI hF
    exfalso
    omega
  | succ n ih =>
    intro v2 m hp hI hF
    have hnn : ((n + 1 : Nat) : Int) = (n : Int) + 1 := by omega
    have hfu := fuE
    unfold fX9_schedule_19
    have kc1 : 0 ≤ (m.1 58 2).toInt ∧ (m.1 58 2).toInt ≤ 29 := hI.1 58 2
    refine s_le (fun kh2 => ?_) (fun kh2 => ?_)
    · have kx3 : 0 ≤ ((m.1 58 2)).toInt ∧ ((m.1 58 2)).toInt < (30 : Int) := by omega
      refine s_ix kx3 ?_
      exact s_ret ⟨trivial, hI, hF⟩
    · have kx4 : 0 ≤ (v2).toInt ∧ (v2).toInt < (30 : Int) := by omega
      refine s_ix kx4 ?_
      refine s_ix kx4 ?_
      refine s_ix kx4 ?_
      have kc5 : 0 ≤ (m.1 59 (v2).toNatClampNeg).toInt ∧ (m.1 59 (v2).toNatClampNeg).toInt ≤ 13 := hI.1 59 (v2).toNatClampNeg
      have kc6 : 0 ≤ (m.1 60 (v2).toNatClampNeg).toInt ∧ (m.1 60 (v2).toNatClampNeg).toInt ≤ 9 := hI.1 60 (v2).toNatClampNeg
      refine s_bd (zX2_minutesFrom (m.1 59 (v2).toNatClampNeg) (m.1 60 (v2).toNatClampNeg) m (show 0 ≤ (m.1 59 (v2).toNatClampNeg).toInt ∧ (m.1 59 (v2).toNatClampNeg).toInt ≤ 13 ∧ 0 ≤ (m.1 60 (v2).toNatClampNeg).toInt ∧ (m.1 60 (v2).toNatClampNeg).toInt ≤ 15 by omega) hI) (fun r6 kr7 => ?_)
      replace kr7 : (0 ≤ r6.toInt) ∧ (r6.toInt ≤ 29) := kr7
      have kc8 : (v2 + (1 : Int32)).toInt = (v2).toInt + 1 := a_addl L1 (by omega) (by omega)
      have kx9 : 0 ≤ ((v2 + (1 : Int32))).toInt ∧ ((v2 + (1 : Int32))).toInt < (30 : Int) := by omega
      refine s_ix kx9 ?_
      refine s_ix kx4 ?_
      have ki10 : zI (sm_w1 m 61 ((v2 + (1 : Int32))).toNatClampNeg ((m.1 61 (v2).toNatClampNeg) + r6)) := zI.w hI rfl (rg _)
      refine s_bd (zX2_otherEnd (m.1 59 (v2).toNatClampNeg) (m.1 60 (v2).toNatClampNeg) (sm_w1 m 61 ((v2 + (1 : Int32))).toNatClampNeg ((m.1 61 (v2).toNatClampNeg) + r6)) (show 0 ≤ (m.1 59 (v2).toNatClampNeg).toInt ∧ (m.1 59 (v2).toNatClampNeg).toInt ≤ 13 ∧ 0 ≤ (m.1 60 (v2).toNatClampNeg).toInt ∧ (m.1 60 (v2).toNatClampNeg).toInt ≤ 15 by omega) ki10) (fun r10 kr11 => ?_)
      replace kr11 : (0 ≤ r10.toInt) ∧ (r10.toInt ≤ 9) := kr11
      refine s_ix kx9 ?_
      have ki12 : zI (sm_w1 (sm_w1 m 61 ((v2 + (1 : Int32))).toNatClampNeg ((m.1 61 (v2).toNatClampNeg) + r6)) 60 ((v2 + (1 : Int32))).toNatClampNeg r10) := zI.w ki10 rfl (show 0 ≤ (r10).toInt ∧ (r10).toInt ≤ 9 by omega)
      have kf13 : Fr wX9_schedule m0 (sm_w1 m 61 ((v2 + (1 : Int32))).toNatClampNeg ((m.1 61 (v2).toNatClampNeg) + r6)) := Fr.w hF rfl
      have kf14 : Fr wX9_schedule m0 (sm_w1 (sm_w1 m 61 ((v2 + (1 : Int32))).toNatClampNeg ((m.1 61 (v2).toNatClampNeg) + r6)) 60 ((v2 + (1 : Int32))).toNatClampNeg r10) := Fr.w kf13 rfl
      exact ih (v2 + (1 : Int32)) (sm_w1 (sm_w1 m 61 ((v2 + (1 : Int32))).toNatClampNeg ((m.1 61 (v2).toNatClampNeg) + r6)) 60 ((v2 + (1 : Int32))).toNatClampNeg r10) (show 0 ≤ (v2 + (1 : Int32)).toInt ∧ (v2 + (1 : Int32)).toInt ≤ 29 ∧ 29 - (v2 + (1 : Int32)).toInt < (n : Int) by omega) ki12 kf14
theorem zX9_schedule (m : sm_S) (hI : zI m) : Sf (fun r => (True) ∧ zI r.2 ∧ Fr wX9_schedule m r.2) (fX9_schedule m) := by
  have hfu := fuE
  unfold fX9_schedule
  have kc1 := L0
  have kc2 : 0 ≤ (m.1 58 1).toInt ∧ (m.1 58 1).toInt ≤ 9 := hI.1 58 1
  have ki3 : zI (sm_w1 m 60 0 (m.1 58 1)) := zI.w hI rfl (show 0 ≤ ((m.1 58 1)).toInt ∧ ((m.1 58 1)).toInt ≤ 9 by omega)
  have ki4 : zI (sm_w1 (sm_w1 m 60 0 (m.1 58 1)) 61 0 (0 : Int32)) := zI.w ki3 rfl (rg _)
  have kf5 : Fr wX9_schedule m (sm_w1 m 60 0 (m.1 58 1)) := Fr.w Fr.refl rfl
  have kf6 : Fr wX9_schedule m (sm_w1 (sm_w1 m 60 0 (m.1 58 1)) 61 0 (0 : Int32)) := Fr.w kf5 rfl
  exact zX9_schedule_19 m sm_fu (0 : Int32) (sm_w1 (sm_w1 m 60 0 (m.1 58 1)) 61 0 (0 : Int32)) (show 0 ≤ (0 : Int32).toInt ∧ (0 : Int32).toInt ≤ 29 ∧ 29 - (0 : Int32).toInt < (sm_fu : Int) by omega) ki4 kf6
theorem zX5_clear (m : sm_S) (hI : zI m) : Sf (fun r => (True) ∧ zI r ∧ Fr wX5_clear m r) (fX5_clear m) := by
  have hfu := fuE
  unfold fX5_clear
  have kc1 := L0
  have ki2 : zI (sm_w1 m 14 1 (0 : Int32)) := zI.w hI rfl (show 0 ≤ ((0 : Int32)).toInt ∧ ((0 : Int32)).toInt ≤ 14 by omega)
  have kf3 : Fr wX5_clear m (sm_w1 m 14 1 (0 : Int32)) := Fr.w Fr.refl rfl
  exact s_ret ⟨trivial, ki2, kf3⟩
theorem zX5_add (x1 : Int32) (m : sm_S) (hI : zI m) : Sf (fun r => (True) ∧ zI r ∧ Fr wX5_add m r) (fX5_add x1 m) := by
  have hfu := fuE
  unfold fX5_add
  have kc1 := L14
  have kc2 : 0 ≤ (m.1 14 1).toInt ∧ (m.1 14 1).toInt ≤ 14 := hI.1 14 1
  refine s_le (fun kh3 => ?_) (fun kh3 => ?_)
  · exact s_ret ⟨trivial, hI, Fr.refl⟩
  · have kx4 : 0 ≤ ((m.1 14 1)).toInt ∧ ((m.1 14 1)).toInt < (14 : Int) := by omega
    refine s_ix kx4 ?_
    have ki5 : zI (sm_w1 m 15 ((m.1 14 1)).toNatClampNeg x1) := zI.w hI rfl (rg _)
    have kc6 : ((m.1 14 1) + (1 : Int32)).toInt = ((m.1 14 1)).toInt + 1 := a_addl L1 (by omega) (by omega)
    have ki7 : zI (sm_w1 (sm_w1 m 15 ((m.1 14 1)).toNatClampNeg x1) 14 1 ((m.1 14 1) + (1 : Int32))) := zI.w ki5 rfl (show 0 ≤ (((m.1 14 1) + (1 : Int32))).toInt ∧ (((m.1 14 1) + (1 : Int32))).toInt ≤ 14 by omega)
    have kf8 : Fr wX5_add m (sm_w1 m 15 ((m.1 14 1)).toNatClampNeg x1) := Fr.w Fr.refl rfl
    have kf9 : Fr wX5_add m (sm_w1 (sm_w1 m 15 ((m.1 14 1)).toNatClampNeg x1) 14 1 ((m.1 14 1) + (1 : Int32))) := Fr.w kf8 rfl
    exact s_ret ⟨trivial, ki7, kf9⟩
theorem zX5_tell (x1 : Int32) (m : sm_S) (hI : zI m) : Sf (fun r => (True) ∧ zI r ∧ Fr wX5_tell m r) (fX5_tell x1 m) := by
  have hfu := fuE
  unfold fX5_tell
  refine s_bd (zX5_clear m hI) (fun m2 kr1 => ?_)
  obtain ⟨kp2, ki3, kf4⟩ := kr1
  refine s_bd (zX5_add x1 m2 ki3) (fun m4 kr5 => ?_)
  obtain ⟨kp6, ki7, kf8⟩ := kr5
  have kf9 : Fr wX5_tell m m2 := Fr.trans Fr.refl kf4 rfl
  have kf10 : Fr wX5_tell m m4 := Fr.trans kf9 kf8 rfl
  exact s_ret ⟨trivial, ki7, kf10⟩
theorem zX9_bits_4 : ∀ (n : Nat) (v1 : Int32) (v2 : Int32) (m : sm_S), (0 ≤ v1.toInt ∧ v1.toInt ≤ 16383 ∧ 0 ≤ v2.toInt ∧ v2.toInt ≤ 29 ∧ 29 - v2.toInt < (n : Int)) → zI m → Sf (fun r => (0 ≤ r.toInt) ∧ (r.toInt ≤ 16383)) (fX9_bits_4 n v1 v2 m) := by
  intro n
  induction n with
  | zero =>
    intro v1 v2 m hp hI
    exfalso
    omega
  | succ n ih =>
    intro v1 v2 m hp hI
    have hnn : ((n + 1 : Nat) : Int) = (n : Int) + 1 := by omega
    have hfu := fuE
    unfold fX9_bits_4
    have kc1 : 0 ≤ (m.1 58 2).toInt ∧ (m.1 58 2).toInt ≤ 29 := hI.1 58 2
    refine s_le (fun kh2 => ?_) (fun kh2 => ?_)
    · exact s_ret (show (0 ≤ v1.toInt) ∧ (v1.toInt ≤ 16383) by omega)
    · have kx3 : 0 ≤ (v2).toInt ∧ (v2).toInt < (30 : Int) := by omega
      refine s_ix kx3 ?_
      have kc4 := L1
      have kc5 : 0 ≤ (m.1 59 (v2).toNatClampNeg).toInt ∧ (m.1 59 (v2).toNatClampNeg).toInt ≤ 13 := hI.1 59 (v2).toNatClampNeg
      have kc6 := L31
      have kc7 : 0 ≤ ((m.1 59 (v2).toNatClampNeg) &&& (31 : Int32)).toInt ∧ ((m.1 59 (v2).toNatClampNeg) &&& (31 : Int32)).toInt ≤ ((31 : Int32)).toInt := a_andr (by omega)
      have kc8 : 0 ≤ ((m.1 59 (v2).toNatClampNeg) &&& (31 : Int32)).toInt ∧ ((m.1 59 (v2).toNatClampNeg) &&& (31 : Int32)).toInt ≤ ((m.1 59 (v2).toNatClampNeg)).toInt := a_andl (by omega)
      have kc9 : 1 ≤ ((1 : Int32) <<< ((m.1 59 (v2).toNatClampNeg) &&& (31 : Int32))).toInt ∧ ((1 : Int32) <<< ((m.1 59 (v2).toNatClampNeg) &&& (31 : Int32))).toInt ≤ 8192 := a_shl 13 (by decide) (by decide) (by omega) (by omega)
      have kc10 : 0 ≤ (v1 ||| ((1 : Int32) <<< ((m.1 59 (v2).toNatClampNeg) &&& (31 : Int32)))).toInt ∧ (v1 ||| ((1 : Int32) <<< ((m.1 59 (v2).toNatClampNeg) &&& (31 : Int32)))).toInt < 16384 := a_or 14 (by decide) (by decide) (by omega) (by omega) (by omega) (by omega)
      have kc11 : (v2 + (1 : Int32)).toInt = (v2).toInt + 1 := a_addl L1 (by omega) (by omega)
      exact ih (v1 ||| ((1 : Int32) <<< ((m.1 59 (v2).toNatClampNeg) &&& (31 : Int32)))) (v2 + (1 : Int32)) m (show 0 ≤ (v1 ||| ((1 : Int32) <<< ((m.1 59 (v2).toNatClampNeg) &&& (31 : Int32)))).toInt ∧ (v1 ||| ((1 : Int32) <<< ((m.1 59 (v2).toNatClampNeg) &&& (31 : Int32)))).toInt ≤ 16383 ∧ 0 ≤ (v2 + (1 : Int32)).toInt ∧ (v2 + (1 : Int32)).toInt ≤ 29 ∧ 29 - (v2 + (1 : Int32)).toInt < (n : Int) by omega) hI
theorem zX9_bits (m : sm_S) (hI : zI m) : Sf (fun r => (0 ≤ r.toInt) ∧ (r.toInt ≤ 16383)) (fX9_bits m) := by
  have hfu := fuE
  unfold fX9_bits
  have kc1 := L0
  exact zX9_bits_4 sm_fu (0 : Int32) (0 : Int32) m (show 0 ≤ (0 : Int32).toInt ∧ (0 : Int32).toInt ≤ 16383 ∧ 0 ≤ (0 : Int32).toInt ∧ (0 : Int32).toInt ≤ 29 ∧ 29 - (0 : Int32).toInt < (sm_fu : Int) by omega) hI
theorem zX9_schedule_i1_19 (m0 : sm_S) : ∀ (n : Nat) (v2 : Int32) (m : sm_S), (0 ≤ v2.toInt ∧ v2.toInt ≤ 29 ∧ 29 - v2.toInt < (n : Int)) → zI m → Fr wX9_schedule_i1 m0 m → Sf (fun r => (True) ∧ zI r.2 ∧ Fr wX9_schedule_i1 m0 r.2) (fX9_schedule_i1_19 n v2 m) := by
  intro n
  induction n with
  | zero =>
    intro v2 m hp hI hF
    exfalso
    omega
  | succ n ih =>
    intro v2 m hp hI hF
    have hnn : ((n + 1 : Nat) : Int) = (n : Int) + 1 := by omega
    have hfu := fuE
    unfold fX9_schedule_i1_19
    have kc1 : 0 ≤ (m.1 62 2).toInt ∧ (m.1 62 2).toInt ≤ 29 := hI.1 62 2
    refine s_le (fun kh2 => ?_) (fun kh2 => ?_)
    · have kx3 : 0 ≤ ((m.1 62 2)).toInt ∧ ((m.1 62 2)).toInt < (30 : Int) := by omega
      refine s_ix kx3 ?_
      exact s_ret ⟨trivial, hI, hF⟩
    · have kx4 : 0 ≤ (v2).toInt ∧ (v2).toInt < (30 : Int) := by omega
      refine s_ix kx4 ?_
      refine s_ix kx4 ?_
      refine s_ix kx4 ?_
      have kc5 : 0 ≤ (m.1 63 (v2).toNatClampNeg).toInt ∧ (m.1 63 (v2).toNatClampNeg).toInt ≤ 13 := hI.1 63 (v2).toNatClampNeg
      have kc6 : 0 ≤ (m.1 64 (v2).toNatClampNeg).toInt ∧ (m.1 64 (v2).toNatClampNeg).toInt ≤ 9 := hI.1 64 (v2).toNatClampNeg
      refine s_bd (zX2_minutesFrom (m.1 63 (v2).toNatClampNeg) (m.1 64 (v2).toNatClampNeg) m (show 0 ≤ (m.1 63 (v2).toNatClampNeg).toInt ∧ (m.1 63 (v2).toNatClampNeg).toInt ≤ 13 ∧ 0 ≤ (m.1 64 (v2).toNatClampNeg).toInt ∧ (m.1 64 (v2).toNatClampNeg).toInt ≤ 15 by omega) hI) (fun r6 kr7 => ?_)
      replace kr7 : (0 ≤ r6.toInt) ∧ (r6.toInt ≤ 29) := kr7
      have kc8 : (v2 + (1 : Int32)).toInt = (v2).toInt + 1 := a_addl L1 (by omega) (by omega)
      have kx9 : 0 ≤ ((v2 + (1 : Int32))).toInt ∧ ((v2 + (1 : Int32))).toInt < (30 : Int) := by omega
      refine s_ix kx9 ?_
      refine s_ix kx4 ?_
      have ki10 : zI (sm_w1 m 65 ((v2 + (1 : Int32))).toNatClampNeg ((m.1 65 (v2).toNatClampNeg) + r6)) := zI.w hI rfl (rg _)
      refine s_bd (zX2_otherEnd (m.1 63 (v2).toNatClampNeg) (m.1 64 (v2).toNatClampNeg) (sm_w1 m 65 ((v2 + (1 : Int32))).toNatClampNeg ((m.1 65 (v2).toNatClampNeg) + r6)) (show 0 ≤ (m.1 63 (v2).toNatClampNeg).toInt ∧ (m.1 63 (v2).toNatClampNeg).toInt ≤ 13 ∧ 0 ≤ (m.1 64 (v2).toNatClampNeg).toInt ∧ (m.1 64 (v2).toNatClampNeg).toInt ≤ 15 by omega) ki10) (fun r10 kr11 => ?_)
      replace kr11 : (0 ≤ r10.toInt) ∧ (r10.toInt ≤ 9) := kr11
      refine s_ix kx9 ?_
      have ki12 : zI (sm_w1 (sm_w1 m 65 ((v2 + (1 : Int32))).toNatClampNeg ((m.1 65 (v2).toNatClampNeg) + r6)) 64 ((v2 + (1 : Int32))).toNatClampNeg r10) := zI.w ki10 rfl (show 0 ≤ (r10).toInt ∧ (r10).toInt ≤ 9 by omega)
      have kf13 : Fr wX9_schedule_i1 m0 (sm_w1 m 65 ((v2 + (1 : Int32))).toNatClampNeg ((m.1 65 (v2).toNatClampNeg) + r6)) := Fr.w hF rfl
      have kf14 : Fr wX9_schedule_i1 m0 (sm_w1 (sm_w1 m 65 ((v2 + (1 : Int32))).toNatClampNeg ((m.1 65 (v2).toNatClampNeg) + r6)) 64 ((v2 + (1 : Int32))).toNatClampNeg r10) := Fr.w kf13 rfl
      exact ih (v2 + (1 : Int32)) (sm_w1 (sm_w1 m 65 ((v2 + (1 : Int32))).toNatClampNeg ((m.1 65 (v2).toNatClampNeg) + r6)) 64 ((v2 + (1 : Int32))).toNatClampNeg r10) (show 0 ≤ (v2 + (1 : Int32)).toInt ∧ (v2 + (1 : Int32)).toInt ≤ 29 ∧ 29 - (v2 + (1 : Int32)).toInt < (n : Int) by omega) ki12 kf14
theorem zX9_schedule_i1 (m : sm_S) (hI : zI m) : Sf (fun r => (True) ∧ zI r.2 ∧ Fr wX9_schedule_i1 m r.2) (fX9_schedule_i1 m) := by
  have hfu := fuE
  unfold fX9_schedule_i1
  have kc1 := L0
  have kc2 : 0 ≤ (m.1 62 1).toInt ∧ (m.1 62 1).toInt ≤ 9 := hI.1 62 1
  have ki3 : zI (sm_w1 m 64 0 (m.1 62 1)) := zI.w hI rfl (show 0 ≤ ((m.1 62 1)).toInt ∧ ((m.1 62 1)).toInt ≤ 9 by omega)
  have ki4 : zI (sm_w1 (sm_w1 m 64 0 (m.1 62 1)) 65 0 (0 : Int32)) := zI.w ki3 rfl (rg _)
  have kf5 : Fr wX9_schedule_i1 m (sm_w1 m 64 0 (m.1 62 1)) := Fr.w Fr.refl rfl
  have kf6 : Fr wX9_schedule_i1 m (sm_w1 (sm_w1 m 64 0 (m.1 62 1)) 65 0 (0 : Int32)) := Fr.w kf5 rfl
  exact zX9_schedule_i1_19 m sm_fu (0 : Int32) (sm_w1 (sm_w1 m 64 0 (m.1 62 1)) 65 0 (0 : Int32)) (show 0 ≤ (0 : Int32).toInt ∧ (0 : Int32).toInt ≤ 29 ∧ 29 - (0 : Int32).toInt < (sm_fu : Int) by omega) ki4 kf6
theorem zX9_bits_i1_4 : ∀ (n : Nat) (v1 : Int32) (v2 : Int32) (m : sm_S), (0 ≤ v1.toInt ∧ v1.toInt ≤ 16383 ∧ 0 ≤ v2.toInt ∧ v2.toInt ≤ 29 ∧ 29 - v2.toInt < (n : Int)) → zI m → Sf (fun r => (0 ≤ r.toInt) ∧ (r.toInt ≤ 16383)) (fX9_bits_i1_4 n v1 v2 m) := by
  intro n
  induction n with
  | zero =>
    intro v1 v2 m hp hI
    exfalso
    omega
  | succ n ih =>
    intro v1 v2 m hp hI
    have hnn : ((n + 1 : Nat) : Int) = (n : Int) + 1 := by omega
    have hfu := fuE
    unfold fX9_bits_i1_4
    have kc1 : 0 ≤ (m.1 62 2).toInt ∧ (m.1 62 2).toInt ≤ 29 := hI.1 62 2
    refine s_le (fun kh2 => ?_) (fun kh2 => ?_)
    · exact s_ret (show (0 ≤ v1.toInt) ∧ (v1.toInt ≤ 16383) by omega)
    · have kx3 : 0 ≤ (v2).toInt ∧ (v2).toInt < (30 : Int) := by omega
      refine s_ix kx3 ?_
      have kc4 := L1
      have kc5 : 0 ≤ (m.1 63 (v2).toNatClampNeg).toInt ∧ (m.1 63 (v2).toNatClampNeg).toInt ≤ 13 := hI.1 63 (v2).toNatClampNeg
      have kc6 := L31
      have kc7 : 0 ≤ ((m.1 63 (v2).toNatClampNeg) &&& (31 : Int32)).toInt ∧ ((m.1 63 (v2).toNatClampNeg) &&& (31 : Int32)).toInt ≤ ((31 : Int32)).toInt := a_andr (by omega)
      have kc8 : 0 ≤ ((m.1 63 (v2).toNatClampNeg) &&& (31 : Int32)).toInt ∧ ((m.1 63 (v2).toNatClampNeg) &&& (31 : Int32)).toInt ≤ ((m.1 63 (v2).toNatClampNeg)).toInt := a_andl (by omega)
      have kc9 : 1 ≤ ((1 : Int32) <<< ((m.1 63 (v2).toNatClampNeg) &&& (31 : Int32))).toInt ∧ ((1 : Int32) <<< ((m.1 63 (v2).toNatClampNeg) &&& (31 : Int32))).toInt ≤ 8192 := a_shl 13 (by decide) (by decide) (by omega) (by omega)
      have kc10 : 0 ≤ (v1 ||| ((1 : Int32) <<< ((m.1 63 (v2).toNatClampNeg) &&& (31 : Int32)))).toInt ∧ (v1 ||| ((1 : Int32) <<< ((m.1 63 (v2).toNatClampNeg) &&& (31 : Int32)))).toInt < 16384 := a_or 14 (by decide) (by decide) (by omega) (by omega) (by omega) (by omega)
      have kc11 : (v2 + (1 : Int32)).toInt = (v2).toInt + 1 := a_addl L1 (by omega) (by omega)
      exact ih (v1 ||| ((1 : Int32) <<< ((m.1 63 (v2).toNatClampNeg) &&& (31 : Int32)))) (v2 + (1 : Int32)) m (show 0 ≤ (v1 ||| ((1 : Int32) <<< ((m.1 63 (v2).toNatClampNeg) &&& (31 : Int32)))).toInt ∧ (v1 ||| ((1 : Int32) <<< ((m.1 63 (v2).toNatClampNeg) &&& (31 : Int32)))).toInt ≤ 16383 ∧ 0 ≤ (v2 + (1 : Int32)).toInt ∧ (v2 + (1 : Int32)).toInt ≤ 29 ∧ 29 - (v2 + (1 : Int32)).toInt < (n : Int) by omega) hI
theorem zX9_bits_i1 (m : sm_S) (hI : zI m) : Sf (fun r => (0 ≤ r.toInt) ∧ (r.toInt ≤ 16383)) (fX9_bits_i1 m) := by
  have hfu := fuE
  unfold fX9_bits_i1
  have kc1 := L0
  exact zX9_bits_i1_4 sm_fu (0 : Int32) (0 : Int32) m (show 0 ≤ (0 : Int32).toInt ∧ (0 : Int32).toInt ≤ 16383 ∧ 0 ≤ (0 : Int32).toInt ∧ (0 : Int32).toInt ≤ 29 ∧ 29 - (0 : Int32).toInt < (sm_fu : Int) by omega) hI
/-- the text's first len signs are those of a tour: a corner, hedges -/
def tF (m : sm_S) (len : Int32) : Prop := 1 ≤ len.toInt ∧ len.toInt ≤ 30 ∧ 97 ≤ (m.1 2 0).toInt ∧ (m.1 2 0).toInt ≤ 106 ∧ ∀ p : Nat, 1 ≤ p → (p : Int) < len.toInt → 65 ≤ (m.1 2 p).toInt ∧ (m.1 2 p).toInt ≤ 78
theorem zX9_firstBad_29 : ∀ (n : Nat) (v2 : Int32) (v3 : Int32) (v4 : Int32) (m : sm_S), (1 ≤ v2.toInt ∧ v2.toInt ≤ 80 ∧ 0 ≤ v3.toInt ∧ v3.toInt ≤ 9 ∧ 1 ≤ v4.toInt ∧ v4.toInt ≤ 30 ∧ 30 - v4.toInt < (n : Int)) → zI m → Sf (fun r => ((-1 : Int) ≤ r.toInt ∧ r.toInt ≤ 30) ∧ (r.toInt < 0 → v2.toInt ≤ 30 ∧ ∀ p : Nat, v4.toInt ≤ (p : Int) → (p : Int) < v2.toInt → 65 ≤ (m.1 2 p).toInt ∧ (m.1 2 p).toInt ≤ 78)) (fX9_firstBad_29 n v2 v3 v4 m) := by
  intro n
  induction n with
  | zero => intro v2 v3 v4 m hp hI; omega
  | succ n ih =>
    intro v2 v3 v4 m hp hI
    have hnn : ((n + 1 : Nat) : Int) = (n : Int) + 1 := by omega
    have l0 := L0
    have ln1 := Ln1
    have l30 := L30
    have ch := hI.1 3 1
    have ch2 : 0 ≤ (m.1 3 1).toInt ∧ (m.1 3 1).toInt ≤ 14 := ch
    have et := a_tn (x := v4) (by omega)
    have cs : 0 ≤ (m.1 2 v4.toNatClampNeg).toInt ∧ (m.1 2 v4.toNatClampNeg).toInt ≤ 65535 := hI.1 2 _
    have e1 : ((m.1 2 v4.toNatClampNeg) - (65 : Int32)).toInt = (m.1 2 v4.toNatClampNeg).toInt - 65 := a_subl L65 (by omega) (by omega)
    unfold fX9_firstBad_29
    refine s_le (fun h1 => s_ret ⟨by omega, fun _ => ⟨by omega, fun p h2 h3 => absurd h3 (by omega)⟩⟩) (fun h1 => ?_)
    refine s_ix (by omega) ?_
    refine s_le (fun h2 => s_ret ⟨by omega, fun q => absurd q (by omega)⟩) (fun h2 => ?_)
    refine s_bd (zX2_hasHedge _ m hI) (fun r5 h5 => ?_)
    refine s_eq (fun h6 => s_ret ⟨by omega, fun q => absurd q (by omega)⟩) (fun h6 => ?_)
    refine s_bd (zX2_touches _ v3 m (by omega) hI) (fun r7 h7 => ?_)
    refine s_eq (fun h8 => s_ret ⟨by omega, fun q => absurd q (by omega)⟩) (fun h8 => ?_)
    refine s_bd (zX2_otherEnd _ v3 m (by omega) hI) (fun r9 h9 => ?_)
    have e2 : (v4 + (1 : Int32)).toInt = v4.toInt + 1 := a_addl L1 (by omega) (by omega)
    refine s_mono (ih v2 r9 (v4 + (1 : Int32)) m (by omega) hI) (fun r hr => ⟨hr.1, fun q => ?_⟩)
    obtain ⟨g1, g2⟩ := hr.2 q
    refine ⟨g1, fun p h3 h4 => ?_⟩
    by_cases e : p = v4.toNatClampNeg
    · subst e; omega
    · exact g2 p (by omega) h4
theorem zX9_firstBad (x1 : Int32) (m : sm_S) (hp : 0 ≤ x1.toInt ∧ x1.toInt ≤ 80) (hI : zI m) : Sf (fun r => (((-1 : Int) ≤ r.toInt) ∧ (r.toInt ≤ 30)) ∧ (r.toInt < 0 → tF m x1)) (fX9_firstBad x1 m) := by
  have hfu := fuE
  have l0 := L0
  have l1 := L1
  have cc : 0 ≤ (m.1 3 0).toInt ∧ (m.1 3 0).toInt ≤ 10 := hI.1 3 0
  have cs : 0 ≤ (m.1 2 0).toInt ∧ (m.1 2 0).toInt ≤ 65535 := hI.1 2 0
  have e1 : ((m.1 2 0) - (97 : Int32)).toInt = (m.1 2 0).toInt - 97 := a_subl L97 (by omega) (by omega)
  unfold fX9_firstBad
  refine s_eq (fun h1 => s_ret ⟨by omega, fun q => absurd q (by omega)⟩) (fun h1 => ?_)
  refine s_bd (zX2_hasCorner _ m hI) (fun r2 h2 => ?_)
  refine s_eq (fun h3 => s_ret ⟨by omega, fun q => absurd q (by omega)⟩) (fun h3 => ?_)
  refine s_mono (zX9_firstBad_29 sm_fu x1 _ (1 : Int32) m (by omega) hI) (fun r hr => ⟨⟨hr.1.1, hr.1.2⟩, fun q => ?_⟩)
  obtain ⟨g1, g2⟩ := hr.2 q
  exact ⟨by omega, g1, by omega, by omega, fun p h4 h5 => g2 p (by omega) h5⟩
theorem zX9_lay_24 (m0 : sm_S) (len : Int32) (hT : tF m0 len) : ∀ (n : Nat) (v3 : Int32) (m : sm_S), (0 ≤ v3.toInt ∧ v3.toInt ≤ 29 ∧ 29 - v3.toInt < (n : Int)) → (m.1 58 2).toInt = len.toInt - 1 → zI m → Fr wX9_lay m0 m → Sf (fun r => (True) ∧ zI r ∧ Fr wX9_lay m0 r) (fX9_lay_24 n v3 m) := by
  intro n
  induction n with
  | zero => intro v3 m hp hs hI hF; omega
  | succ n ih =>
    intro v3 m hp hs hI hF
    have hnn : ((n + 1 : Nat) : Int) = (n : Int) + 1 := by omega
    have hl := hT.2.1
    have e1 : (v3 + (1 : Int32)).toInt = v3.toInt + 1 := a_addl L1 (by omega) (by omega)
    have et := a_tn (x := v3 + (1 : Int32)) (by omega)
    unfold fX9_lay_24
    refine s_le (fun h1 => s_ret ⟨trivial, hI, hF⟩) (fun h1 => ?_)
    refine s_ix (by omega) (s_ix (by omega) ?_)
    have hq := hT.2.2.2.2 (v3 + (1 : Int32)).toNatClampNeg (by omega) (by omega)
    have e2 : m.1 2 (v3 + (1 : Int32)).toNatClampNeg = m0.1 2 (v3 + (1 : Int32)).toNatClampNeg := hF 2 _ rfl
    rw [← e2] at hq
    have e3 : ((m.1 2 (v3 + (1 : Int32)).toNatClampNeg) - (65 : Int32)).toInt = (m.1 2 (v3 + (1 : Int32)).toNatClampNeg).toInt - 65 := a_subl L65 (by omega) (by omega)
    exact ih (v3 + (1 : Int32)) _ (by omega) hs (zI.w hI rfl (show 0 ≤ ((m.1 2 (v3 + (1 : Int32)).toNatClampNeg) - (65 : Int32)).toInt ∧ ((m.1 2 (v3 + (1 : Int32)).toNatClampNeg) - (65 : Int32)).toInt ≤ 13 by omega)) (Fr.w hF rfl)
theorem zX9_lay (x1 : Int32) (m : sm_S) (hT : tF m x1) (hI : zI m) : Sf (fun r => (True) ∧ zI r ∧ Fr wX9_lay m r) (fX9_lay x1 m) := by
  have hfu := fuE
  have l0 := L0
  have l1 := L1
  have hT2 := hT
  obtain ⟨h1, h2, h3, h4, -⟩ := hT2
  have e1 : ((m.1 2 0) - (97 : Int32)).toInt = (m.1 2 0).toInt - 97 := a_subl L97 (by omega) (by omega)
  have e2 : (x1 - (1 : Int32)).toInt = x1.toInt - 1 := a_subl L1 (by omega) (by omega)
  unfold fX9_lay
  refine zX9_lay_24 m x1 hT sm_fu (0 : Int32) _ (by omega) ?_ ?_ (Fr.w (Fr.w (Fr.w Fr.refl rfl) rfl) rfl)
  · exact e2
  · exact zI.w (zI.w (zI.w hI rfl (show 0 ≤ (1 : Int32).toInt ∧ (1 : Int32).toInt ≤ 1 by omega)) rfl (show 0 ≤ ((m.1 2 0) - (97 : Int32)).toInt ∧ ((m.1 2 0) - (97 : Int32)).toInt ≤ 9 by omega)) rfl (show 0 ≤ (x1 - (1 : Int32)).toInt ∧ (x1 - (1 : Int32)).toInt ≤ 29 by omega)
theorem zX9_lay_i1_24 (m0 : sm_S) (len : Int32) (hT : tF m0 len) : ∀ (n : Nat) (v3 : Int32) (m : sm_S), (0 ≤ v3.toInt ∧ v3.toInt ≤ 29 ∧ 29 - v3.toInt < (n : Int)) → (m.1 62 2).toInt = len.toInt - 1 → zI m → Fr wX9_lay_i1 m0 m → Sf (fun r => (True) ∧ zI r ∧ Fr wX9_lay_i1 m0 r) (fX9_lay_i1_24 n v3 m) := by
  intro n
  induction n with
  | zero => intro v3 m hp hs hI hF; omega
  | succ n ih =>
    intro v3 m hp hs hI hF
    have hnn : ((n + 1 : Nat) : Int) = (n : Int) + 1 := by omega
    have hl := hT.2.1
    have e1 : (v3 + (1 : Int32)).toInt = v3.toInt + 1 := a_addl L1 (by omega) (by omega)
    have et := a_tn (x := v3 + (1 : Int32)) (by omega)
    unfold fX9_lay_i1_24
    refine s_le (fun h1 => s_ret ⟨trivial, hI, hF⟩) (fun h1 => ?_)
    refine s_ix (by omega) (s_ix (by omega) ?_)
    have hq := hT.2.2.2.2 (v3 + (1 : Int32)).toNatClampNeg (by omega) (by omega)
    have e2 : m.1 2 (v3 + (1 : Int32)).toNatClampNeg = m0.1 2 (v3 + (1 : Int32)).toNatClampNeg := hF 2 _ rfl
    rw [← e2] at hq
    have e3 : ((m.1 2 (v3 + (1 : Int32)).toNatClampNeg) - (65 : Int32)).toInt = (m.1 2 (v3 + (1 : Int32)).toNatClampNeg).toInt - 65 := a_subl L65 (by omega) (by omega)
    exact ih (v3 + (1 : Int32)) _ (by omega) hs (zI.w hI rfl (show 0 ≤ ((m.1 2 (v3 + (1 : Int32)).toNatClampNeg) - (65 : Int32)).toInt ∧ ((m.1 2 (v3 + (1 : Int32)).toNatClampNeg) - (65 : Int32)).toInt ≤ 13 by omega)) (Fr.w hF rfl)
theorem zX9_lay_i1 (x1 : Int32) (m : sm_S) (hT : tF m x1) (hI : zI m) : Sf (fun r => (True) ∧ zI r ∧ Fr wX9_lay_i1 m r) (fX9_lay_i1 x1 m) := by
  have hfu := fuE
  have l0 := L0
  have l1 := L1
  have hT2 := hT
  obtain ⟨h1, h2, h3, h4, -⟩ := hT2
  have e1 : ((m.1 2 0) - (97 : Int32)).toInt = (m.1 2 0).toInt - 97 := a_subl L97 (by omega) (by omega)
  have e2 : (x1 - (1 : Int32)).toInt = x1.toInt - 1 := a_subl L1 (by omega) (by omega)
  unfold fX9_lay_i1
  refine zX9_lay_i1_24 m x1 hT sm_fu (0 : Int32) _ (by omega) ?_ ?_ (Fr.w (Fr.w (Fr.w Fr.refl rfl) rfl) rfl)
  · exact e2
  · exact zI.w (zI.w (zI.w hI rfl (show 0 ≤ (1 : Int32).toInt ∧ (1 : Int32).toInt ≤ 1 by omega)) rfl (show 0 ≤ ((m.1 2 0) - (97 : Int32)).toInt ∧ ((m.1 2 0) - (97 : Int32)).toInt ≤ 9 by omega)) rfl (show 0 ≤ (x1 - (1 : Int32)).toInt ∧ (x1 - (1 : Int32)).toInt ≤ 29 by omega)
theorem zX11_tour (x1 : Int32) (m : sm_S) (hI : zI m) : Sf (fun r => (((r.2.1 1 1).toInt = 0)) ∧ zI r.2 ∧ Fr wX11_tour m r.2) (fX11_tour x1 m) := by
  have hfu := fuE
  unfold fX11_tour
  have kc1 := L0
  refine s_lt (fun kh2 => ?_) (fun kh2 => ?_)
  · have kc3 := Ln100
    have ki4 : zI (sm_w1 m 1 1 (0 : Int32)) := zI.w hI rfl (show 0 ≤ ((0 : Int32)).toInt ∧ ((0 : Int32)).toInt ≤ 80 by omega)
    have kc5 : 0 ≤ ((sm_w1 m 1 1 (0 : Int32)).1 1 1).toInt ∧ ((sm_w1 m 1 1 (0 : Int32)).1 1 1).toInt ≤ 80 := ki4.1 1 1
    have kc6 : ((sm_w1 m 1 1 (0 : Int32)).1 1 1).toInt = ((0 : Int32)).toInt := rfl
    have kf7 : Fr wX11_tour m (sm_w1 m 1 1 (0 : Int32)) := Fr.w Fr.refl rfl
    exact s_ret ⟨(show (((sm_w1 m 1 1 (0 : Int32)).1 1 1).toInt = 0) by omega), ki4, kf7⟩
  · have kc8 := L2
    refine s_lt (fun kh9 => ?_) (fun kh9 => ?_)
    · have kc10 : 0 ≤ (m.1 1 1).toInt ∧ (m.1 1 1).toInt ≤ 80 := hI.1 1 1
      have ki11 : zI (sm_w1 m 1 1 (0 : Int32)) := zI.w hI rfl (show 0 ≤ ((0 : Int32)).toInt ∧ ((0 : Int32)).toInt ≤ 80 by omega)
      refine s_bd (zX9_firstBad (m.1 1 1) (sm_w1 m 1 1 (0 : Int32)) (show 0 ≤ (m.1 1 1).toInt ∧ (m.1 1 1).toInt ≤ 80 by omega) ki11) (fun r2 kTF => ?_)
      have kr12 : ((-1 : Int) ≤ r2.toInt) ∧ (r2.toInt ≤ 30) := kTF.1
      refine s_lt (fun kh13 => ?_) (fun kh13 => ?_)
      · refine s_eq (fun kh14 => ?_) (fun kh14 => ?_)
        · refine s_bd (zX9_lay (m.1 1 1) (sm_w1 m 1 1 (0 : Int32)) (kTF.2 (by omega)) ki11) (fun m4 kr15 => ?_)
          obtain ⟨kp16, ki17, kf18⟩ := kr15
          refine s_bd (zX9_schedule m4 ki17) (fun r6 kr19 => ?_)
          obtain ⟨kp20, ki21, kf22⟩ := kr19
          have kc23 : 0 ≤ (r6.2.1 58 2).toInt ∧ (r6.2.1 58 2).toInt ≤ 29 := ki21.1 58 2
          have kc24 : (r6.2.1 58 2).toInt = (m4.1 58 2).toInt := congrArg Int32.toInt (kf22 58 2 rfl)
          have kc25 : 0 ≤ (m4.1 58 2).toInt ∧ (m4.1 58 2).toInt ≤ 29 := ki17.1 58 2
          have kx26 : 0 ≤ ((r6.2.1 58 2)).toInt ∧ ((r6.2.1 58 2)).toInt < (30 : Int) := by omega
          refine s_ix kx26 ?_
          refine s_bd (zX5_tell (r6.2.1 60 ((r6.2.1 58 2)).toNatClampNeg) r6.2 ki21) (fun m9 kr27 => ?_)
          obtain ⟨kp28, ki29, kf30⟩ := kr27
          refine s_bd (zX9_bits m9 ki29) (fun r11 kr31 => ?_)
          replace kr31 : (0 ≤ r11.toInt) ∧ (r11.toInt ≤ 16383) := kr31
          refine s_bd (zX5_add r11 m9 ki29) (fun m13 kr32 => ?_)
          obtain ⟨kp33, ki34, kf35⟩ := kr32
          have kc36 : 0 ≤ (m13.1 1 1).toInt ∧ (m13.1 1 1).toInt ≤ 80 := ki34.1 1 1
          have kc37 : (m13.1 1 1).toInt = (m9.1 1 1).toInt := congrArg Int32.toInt (kf35 1 1 rfl)
          have kc38 : 0 ≤ (m9.1 1 1).toInt ∧ (m9.1 1 1).toInt ≤ 80 := ki29.1 1 1
          have kc39 : (m9.1 1 1).toInt = (r6.2.1 1 1).toInt := congrArg Int32.toInt (kf30 1 1 rfl)
          have kc40 : 0 ≤ (r6.2.1 1 1).toInt ∧ (r6.2.1 1 1).toInt ≤ 80 := ki21.1 1 1
          have kc41 : (r6.2.1 1 1).toInt = (m4.1 1 1).toInt := congrArg Int32.toInt (kf22 1 1 rfl)
          have kc42 : 0 ≤ (m4.1 1 1).toInt ∧ (m4.1 1 1).toInt ≤ 80 := ki17.1 1 1
          have kc43 : (m4.1 1 1).toInt = ((sm_w1 m 1 1 (0 : Int32)).1 1 1).toInt := congrArg Int32.toInt (kf18 1 1 rfl)
          have kc44 : 0 ≤ ((sm_w1 m 1 1 (0 : Int32)).1 1 1).toInt ∧ ((sm_w1 m 1 1 (0 : Int32)).1 1 1).toInt ≤ 80 := ki11.1 1 1
          have kc45 : ((sm_w1 m 1 1 (0 : Int32)).1 1 1).toInt = ((0 : Int32)).toInt := rfl
          have kf46 : Fr wX11_tour m (sm_w1 m 1 1 (0 : Int32)) := Fr.w Fr.refl rfl
          have kf47 : Fr wX11_tour m m4 := Fr.trans kf46 kf18 rfl
          have kf48 : Fr wX11_tour m r6.2 := Fr.trans kf47 kf22 rfl
          have kf49 : Fr wX11_tour m m9 := Fr.trans kf48 kf30 rfl
          have kf50 : Fr wX11_tour m m13 := Fr.trans kf49 kf35 rfl
          exact s_ret ⟨(show ((m13.1 1 1).toInt = 0) by omega), ki34, kf50⟩
        · have kc51 := L1
          refine s_eq (fun kh52 => ?_) (fun kh52 => ?_)
          · refine s_bd (zX9_lay_i1 (m.1 1 1) (sm_w1 m 1 1 (0 : Int32)) (kTF.2 (by omega)) ki11) (fun m16 kr53 => ?_)
            obtain ⟨kp54, ki55, kf56⟩ := kr53
            refine s_bd (zX9_schedule_i1 m16 ki55) (fun r18 kr57 => ?_)
            obtain ⟨kp58, ki59, kf60⟩ := kr57
            have kc61 : 0 ≤ (r18.2.1 62 2).toInt ∧ (r18.2.1 62 2).toInt ≤ 29 := ki59.1 62 2
            have kc62 : (r18.2.1 62 2).toInt = (m16.1 62 2).toInt := congrArg Int32.toInt (kf60 62 2 rfl)
            have kc63 : 0 ≤ (m16.1 62 2).toInt ∧ (m16.1 62 2).toInt ≤ 29 := ki55.1 62 2
            have kx64 : 0 ≤ ((r18.2.1 62 2)).toInt ∧ ((r18.2.1 62 2)).toInt < (30 : Int) := by omega
            refine s_ix kx64 ?_
            refine s_bd (zX5_tell (r18.2.1 64 ((r18.2.1 62 2)).toNatClampNeg) r18.2 ki59) (fun m21 kr65 => ?_)
            obtain ⟨kp66, ki67, kf68⟩ := kr65
            refine s_bd (zX9_bits_i1 m21 ki67) (fun r23 kr69 => ?_)
            replace kr69 : (0 ≤ r23.toInt) ∧ (r23.toInt ≤ 16383) := kr69
            refine s_bd (zX5_add r23 m21 ki67) (fun m25 kr70 => ?_)
            obtain ⟨kp71, ki72, kf73⟩ := kr70
            have kc74 : 0 ≤ (m25.1 1 1).toInt ∧ (m25.1 1 1).toInt ≤ 80 := ki72.1 1 1
            have kc75 : (m25.1 1 1).toInt = (m21.1 1 1).toInt := congrArg Int32.toInt (kf73 1 1 rfl)
            have kc76 : 0 ≤ (m21.1 1 1).toInt ∧ (m21.1 1 1).toInt ≤ 80 := ki67.1 1 1
            have kc77 : (m21.1 1 1).toInt = (r18.2.1 1 1).toInt := congrArg Int32.toInt (kf68 1 1 rfl)
            have kc78 : 0 ≤ (r18.2.1 1 1).toInt ∧ (r18.2.1 1 1).toInt ≤ 80 := ki59.1 1 1
            have kc79 : (r18.2.1 1 1).toInt = (m16.1 1 1).toInt := congrArg Int32.toInt (kf60 1 1 rfl)
            have kc80 : 0 ≤ (m16.1 1 1).toInt ∧ (m16.1 1 1).toInt ≤ 80 := ki55.1 1 1
            have kc81 : (m16.1 1 1).toInt = ((sm_w1 m 1 1 (0 : Int32)).1 1 1).toInt := congrArg Int32.toInt (kf56 1 1 rfl)
            have kc82 : 0 ≤ ((sm_w1 m 1 1 (0 : Int32)).1 1 1).toInt ∧ ((sm_w1 m 1 1 (0 : Int32)).1 1 1).toInt ≤ 80 := ki11.1 1 1
            have kc83 : ((sm_w1 m 1 1 (0 : Int32)).1 1 1).toInt = ((0 : Int32)).toInt := rfl
            have kf84 : Fr wX11_tour m (sm_w1 m 1 1 (0 : Int32)) := Fr.w Fr.refl rfl
            have kf85 : Fr wX11_tour m m16 := Fr.trans kf84 kf56 rfl
            have kf86 : Fr wX11_tour m r18.2 := Fr.trans kf85 kf60 rfl
            have kf87 : Fr wX11_tour m m21 := Fr.trans kf86 kf68 rfl
            have kf88 : Fr wX11_tour m m25 := Fr.trans kf87 kf73 rfl
            exact s_ret ⟨(show ((m25.1 1 1).toInt = 0) by omega), ki72, kf88⟩
          · omega
      · have kc89 := Ln1
        have kc90 : ((-1 : Int32) - r2).toInt = ((-1 : Int32)).toInt - (r2).toInt := a_sub (by omega) (by omega)
        have kc91 : 0 ≤ ((sm_w1 m 1 1 (0 : Int32)).1 1 1).toInt ∧ ((sm_w1 m 1 1 (0 : Int32)).1 1 1).toInt ≤ 80 := ki11.1 1 1
        have kc92 : ((sm_w1 m 1 1 (0 : Int32)).1 1 1).toInt = ((0 : Int32)).toInt := rfl
        have kf93 : Fr wX11_tour m (sm_w1 m 1 1 (0 : Int32)) := Fr.w Fr.refl rfl
        exact s_ret ⟨(show (((sm_w1 m 1 1 (0 : Int32)).1 1 1).toInt = 0) by omega), ki11, kf93⟩
    · have kc94 := Ln100
      have ki95 : zI (sm_w1 m 1 1 (0 : Int32)) := zI.w hI rfl (show 0 ≤ ((0 : Int32)).toInt ∧ ((0 : Int32)).toInt ≤ 80 by omega)
      have kc96 : 0 ≤ ((sm_w1 m 1 1 (0 : Int32)).1 1 1).toInt ∧ ((sm_w1 m 1 1 (0 : Int32)).1 1 1).toInt ≤ 80 := ki95.1 1 1
      have kc97 : ((sm_w1 m 1 1 (0 : Int32)).1 1 1).toInt = ((0 : Int32)).toInt := rfl
      have kf98 : Fr wX11_tour m (sm_w1 m 1 1 (0 : Int32)) := Fr.w Fr.refl rfl
      exact s_ret ⟨(show (((sm_w1 m 1 1 (0 : Int32)).1 1 1).toInt = 0) by omega), ki95, kf98⟩
theorem zX6_copyFrom_18 (m0 : sm_S) : ∀ (n : Nat) (v2 : Int32) (m : sm_S), (0 ≤ v2.toInt ∧ v2.toInt ≤ 14 ∧ 14 - v2.toInt < (n : Int)) → zI m → Fr wX6_copyFrom m0 m → Sf (fun r => (True) ∧ zI r ∧ Fr wX6_copyFrom m0 r) (fX6_copyFrom_18 n v2 m) := by
  intro n
  induction n with
  | zero =>
    intro v2 m hp hI hF
    exfalso
    omega
  | succ n ih =>
    intro v2 m hp hI hF
    have hnn : ((n + 1 : Nat) : Int) = (n : Int) + 1 := by omega
    have hfu := fuE
    unfold fX6_copyFrom_18
    have kc1 := L14
    refine s_le (fun kh2 => ?_) (fun kh2 => ?_)
    · exact s_ret ⟨trivial, hI, hF⟩
    · have kx3 : 0 ≤ (v2).toInt ∧ (v2).toInt < (14 : Int) := by omega
      refine s_ix kx3 ?_
      refine s_ix kx3 ?_
      have kc4 : (v2 + (1 : Int32)).toInt = (v2).toInt + 1 := a_addl L1 (by omega) (by omega)
      have ki5 : zI (sm_w1 m 19 (v2).toNatClampNeg (m.1 17 (v2).toNatClampNeg)) := zI.w hI rfl (rg _)
      have kf6 : Fr wX6_copyFrom m0 (sm_w1 m 19 (v2).toNatClampNeg (m.1 17 (v2).toNatClampNeg)) := Fr.w hF rfl
      exact ih (v2 + (1 : Int32)) (sm_w1 m 19 (v2).toNatClampNeg (m.1 17 (v2).toNatClampNeg)) (show 0 ≤ (v2 + (1 : Int32)).toInt ∧ (v2 + (1 : Int32)).toInt ≤ 14 ∧ 14 - (v2 + (1 : Int32)).toInt < (n : Int) by omega) ki5 kf6
theorem zX6_copyFrom (m : sm_S) (hI : zI m) : Sf (fun r => (True) ∧ zI r ∧ Fr wX6_copyFrom m r) (fX6_copyFrom m) := by
  have hfu := fuE
  unfold fX6_copyFrom
  have kc1 := L0
  have kc2 : 0 ≤ (m.1 16 0).toInt ∧ (m.1 16 0).toInt ≤ 9 := hI.1 16 0
  have ki3 : zI (sm_w1 m 18 0 (m.1 16 0)) := zI.w hI rfl (show 0 ≤ ((m.1 16 0)).toInt ∧ ((m.1 16 0)).toInt ≤ 9 by omega)
  have ki4 : zI (sm_w1 (sm_w1 m 18 0 (m.1 16 0)) 18 1 (m.1 16 1)) := zI.w ki3 rfl (rg _)
  have kf5 : Fr wX6_copyFrom m (sm_w1 m 18 0 (m.1 16 0)) := Fr.w Fr.refl rfl
  have kf6 : Fr wX6_copyFrom m (sm_w1 (sm_w1 m 18 0 (m.1 16 0)) 18 1 (m.1 16 1)) := Fr.w kf5 rfl
  exact zX6_copyFrom_18 m sm_fu (0 : Int32) (sm_w1 (sm_w1 m 18 0 (m.1 16 0)) 18 1 (m.1 16 1)) (show 0 ≤ (0 : Int32).toInt ∧ (0 : Int32).toInt ≤ 14 ∧ 14 - (0 : Int32).toInt < (sm_fu : Int) by omega) ki4 kf6
theorem zX6_day_i1 (m : sm_S) (hI : zI m) : Sf (fun r => True) (fX6_day_i1 m) := by
  have hfu := fuE
  unfold fX6_day_i1
  have kc1 := L60
  exact s_ret trivial
theorem zX6_isFresh_i1 (x1 : Int32) (m : sm_S) (hp : 0 ≤ x1.toInt ∧ x1.toInt ≤ 13) (hI : zI m) : Sf (fun r => (0 ≤ r.toInt) ∧ (r.toInt ≤ 1)) (fX6_isFresh_i1 x1 m) := by
  have hfu := fuE
  unfold fX6_isFresh_i1
  have kx1 : 0 ≤ (x1).toInt ∧ (x1).toInt < (14 : Int) := by omega
  refine s_ix kx1 ?_
  have kc2 := Ln1
  refine s_eq (fun kh3 => ?_) (fun kh3 => ?_)
  · have kc4 := L1
    exact s_ret (show (0 ≤ (1 : Int32).toInt) ∧ ((1 : Int32).toInt ≤ 1) by omega)
  · refine s_bd (zX6_day_i1 m hI) (fun r3 kr5 => ?_)
    refine s_ix kx1 ?_
    have kc6 : 0 ≤ (m.1 3 2).toInt ∧ (m.1 3 2).toInt ≤ 99 := hI.1 3 2
    refine s_lt (fun kh7 => ?_) (fun kh7 => ?_)
    · have kc8 := L0
      exact s_ret (show (0 ≤ (0 : Int32).toInt) ∧ ((0 : Int32).toInt ≤ 1) by omega)
    · have kc9 := L1
      exact s_ret (show (0 ≤ (1 : Int32).toInt) ∧ ((1 : Int32).toInt ≤ 1) by omega)
theorem zX6_isLight_i1 (m : sm_S) (hI : zI m) : Sf (fun r => (0 ≤ r.toInt) ∧ (r.toInt ≤ 1)) (fX6_isLight_i1 m) := by
  have hfu := fuE
  unfold fX6_isLight_i1
  have kc1 := L40
  have kc2 := L60
  refine s_le (fun kh3 => ?_) (fun kh3 => ?_)
  · have kc4 := L0
    exact s_ret (show (0 ≤ (0 : Int32).toInt) ∧ ((0 : Int32).toInt ≤ 1) by omega)
  · have kc5 := L1
    exact s_ret (show (0 ≤ (1 : Int32).toInt) ∧ ((1 : Int32).toInt ≤ 1) by omega)
theorem zX6_whyNot_i1 (x1 : Int32) (m : sm_S) (hp : 0 ≤ x1.toInt ∧ x1.toInt ≤ 13) (hI : zI m) : Sf (fun r => ((-5 : Int) ≤ r.toInt) ∧ (r.toInt ≤ 0)) (fX6_whyNot_i1 x1 m) := by
  have hfu := fuE
  unfold fX6_whyNot_i1
  have kc1 : 0 ≤ (m.1 18 0).toInt ∧ (m.1 18 0).toInt ≤ 9 := hI.1 18 0
  refine s_bd (zX2_touches x1 (m.1 18 0) m (show 0 ≤ x1.toInt ∧ x1.toInt ≤ 13 ∧ 0 ≤ (m.1 18 0).toInt ∧ (m.1 18 0).toInt ≤ 15 by omega) hI) (fun r2 kr2 => ?_)
  replace kr2 : (0 ≤ r2.toInt) ∧ (r2.toInt ≤ 1) := kr2
  have kc3 := L0
  refine s_eq (fun kh4 => ?_) (fun kh4 => ?_)
  · have kc5 := Ln2
    exact s_ret (show ((-5 : Int) ≤ (-2 : Int32).toInt) ∧ ((-2 : Int32).toInt ≤ 0) by omega)
  · refine s_bd (zX6_isFresh_i1 x1 m (show 0 ≤ x1.toInt ∧ x1.toInt ≤ 13 by omega) hI) (fun r4 kr6 => ?_)
    replace kr6 : (0 ≤ r4.toInt) ∧ (r4.toInt ≤ 1) := kr6
    refine s_eq (fun kh7 => ?_) (fun kh7 => ?_)
    · have kc8 := Ln3
      exact s_ret (show ((-5 : Int) ≤ (-3 : Int32).toInt) ∧ ((-3 : Int32).toInt ≤ 0) by omega)
    · have kx9 : 0 ≤ (x1).toInt ∧ (x1).toInt < (14 : Int) := by omega
      refine s_ix kx9 ?_
      have kc10 : 0 ≤ (m.1 13 (x1).toNatClampNeg).toInt ∧ (m.1 13 (x1).toNatClampNeg).toInt ≤ 1 := hI.1 13 (x1).toNatClampNeg
      refine s_eq (fun kh11 => ?_) (fun kh11 => ?_)
      · refine s_bd (zX2_minutesFrom x1 (m.1 18 0) m (show 0 ≤ x1.toInt ∧ x1.toInt ≤ 13 ∧ 0 ≤ (m.1 18 0).toInt ∧ (m.1 18 0).toInt ≤ 15 by omega) hI) (fun r7 kr12 => ?_)
        replace kr12 : (0 ≤ r7.toInt) ∧ (r7.toInt ≤ 29) := kr12
        have kc13 : 0 ≤ (m.1 3 3).toInt ∧ (m.1 3 3).toInt ≤ 9999 := hI.1 3 3
        refine s_le (fun kh14 => ?_) (fun kh14 => ?_)
        · exact s_ret (show ((-5 : Int) ≤ (0 : Int32).toInt) ∧ ((0 : Int32).toInt ≤ 0) by omega)
        · have kc15 := Ln5
          exact s_ret (show ((-5 : Int) ≤ (-5 : Int32).toInt) ∧ ((-5 : Int32).toInt ≤ 0) by omega)
      · refine s_bd (zX6_isLight_i1 m hI) (fun r9 kr16 => ?_)
        replace kr16 : (0 ≤ r9.toInt) ∧ (r9.toInt ≤ 1) := kr16
        refine s_eq (fun kh17 => ?_) (fun kh17 => ?_)
        · have kc18 := Ln4
          exact s_ret (show ((-5 : Int) ≤ (-4 : Int32).toInt) ∧ ((-4 : Int32).toInt ≤ 0) by omega)
        · refine s_bd (zX2_minutesFrom x1 (m.1 18 0) m (show 0 ≤ x1.toInt ∧ x1.toInt ≤ 13 ∧ 0 ≤ (m.1 18 0).toInt ∧ (m.1 18 0).toInt ≤ 15 by omega) hI) (fun r11 kr19 => ?_)
          replace kr19 : (0 ≤ r11.toInt) ∧ (r11.toInt ≤ 29) := kr19
          have kc20 : 0 ≤ (m.1 3 3).toInt ∧ (m.1 3 3).toInt ≤ 9999 := hI.1 3 3
          refine s_le (fun kh21 => ?_) (fun kh21 => ?_)
          · exact s_ret (show ((-5 : Int) ≤ (0 : Int32).toInt) ∧ ((0 : Int32).toInt ≤ 0) by omega)
          · have kc22 := Ln5
            exact s_ret (show ((-5 : Int) ≤ (-5 : Int32).toInt) ∧ ((-5 : Int32).toInt ≤ 0) by omega)
theorem zX6_step_i1 (x1 : Int32) (m : sm_S) (hp : 0 ≤ x1.toInt ∧ x1.toInt ≤ 13) (hI : zI m) : Sf (fun r => ((0 ≤ r.1.toInt) ∧ (r.1.toInt ≤ 29)) ∧ zI r.2 ∧ Fr wX6_step_i1 m r.2) (fX6_step_i1 x1 m) := by
  have hfu := fuE
  unfold fX6_step_i1
  have kc1 : 0 ≤ (m.1 18 0).toInt ∧ (m.1 18 0).toInt ≤ 9 := hI.1 18 0
  refine s_bd (zX2_minutesFrom x1 (m.1 18 0) m (show 0 ≤ x1.toInt ∧ x1.toInt ≤ 13 ∧ 0 ≤ (m.1 18 0).toInt ∧ (m.1 18 0).toInt ≤ 15 by omega) hI) (fun r2 kr2 => ?_)
  replace kr2 : (0 ≤ r2.toInt) ∧ (r2.toInt ≤ 29) := kr2
  refine s_bd (zX6_day_i1 m hI) (fun r4 kr3 => ?_)
  have kx4 : 0 ≤ (x1).toInt ∧ (x1).toInt < (14 : Int) := by omega
  refine s_ix kx4 ?_
  have ki5 : zI (sm_w1 m 19 (x1).toNatClampNeg r4) := zI.w hI rfl (rg _)
  have ki6 : zI (sm_w1 (sm_w1 m 19 (x1).toNatClampNeg r4) 18 1 ((m.1 18 1) + r2)) := zI.w ki5 rfl (rg _)
  refine s_bd (zX2_otherEnd x1 (m.1 18 0) (sm_w1 (sm_w1 m 19 (x1).toNatClampNeg r4) 18 1 ((m.1 18 1) + r2)) (show 0 ≤ x1.toInt ∧ x1.toInt ≤ 13 ∧ 0 ≤ (m.1 18 0).toInt ∧ (m.1 18 0).toInt ≤ 15 by omega) ki6) (fun r7 kr7 => ?_)
  replace kr7 : (0 ≤ r7.toInt) ∧ (r7.toInt ≤ 9) := kr7
  have ki8 : zI (sm_w1 (sm_w1 (sm_w1 m 19 (x1).toNatClampNeg r4) 18 1 ((m.1 18 1) + r2)) 18 0 r7) := zI.w ki6 rfl (show 0 ≤ (r7).toInt ∧ (r7).toInt ≤ 9 by omega)
  have kf9 : Fr wX6_step_i1 m (sm_w1 m 19 (x1).toNatClampNeg r4) := Fr.w Fr.refl rfl
  have kf10 : Fr wX6_step_i1 m (sm_w1 (sm_w1 m 19 (x1).toNatClampNeg r4) 18 1 ((m.1 18 1) + r2)) := Fr.w kf9 rfl
  have kf11 : Fr wX6_step_i1 m (sm_w1 (sm_w1 (sm_w1 m 19 (x1).toNatClampNeg r4) 18 1 ((m.1 18 1) + r2)) 18 0 r7) := Fr.w kf10 rfl
  exact s_ret ⟨(show (0 ≤ r2.toInt) ∧ (r2.toInt ≤ 29) by omega), ki8, kf11⟩
theorem zX11_look_61 (m0 : sm_S) : ∀ (n : Nat) (v3 : Int32) (v4 : Int32) (v5 : Int32) (v6 : Int32) (m : sm_S), ((-5 : Int) ≤ v5.toInt ∧ v5.toInt ≤ 0 ∧ 0 ≤ v6.toInt ∧ v6.toInt ≤ 29 ∧ 29 - v6.toInt < (n : Int)) → zI m → Fr wX11_look m0 m → Sf (fun r => (True) ∧ zI r.2 ∧ Fr wX11_look m0 r.2) (fX11_look_61 n v3 v4 v5 v6 m) := by
  intro n
  induction n with
  | zero =>
    intro v3 v4 v5 v6 m hp hI hF
    exfalso
    omega
  | succ n ih =>
    intro v3 v4 v5 v6 m hp hI hF
    have hnn : ((n + 1 : Nat) : Int) = (n : Int) + 1 := by omega
    have hfu := fuE
    unfold fX11_look_61
    have kc1 : 0 ≤ (m.1 58 2).toInt ∧ (m.1 58 2).toInt ≤ 29 := hI.1 58 2
    refine s_le (fun kh2 => ?_) (fun kh2 => ?_)
    · refine s_bd (zX5_tell v5 m hI) (fun m4 kr3 => ?_)
      obtain ⟨kp4, ki5, kf6⟩ := kr3
      refine s_bd (zX5_add ((m4.1 18 1) - (m4.1 16 1)) m4 ki5) (fun m6 kr7 => ?_)
      obtain ⟨kp8, ki9, kf10⟩ := kr7
      refine s_bd (zX5_add v3 m6 ki9) (fun m8 kr11 => ?_)
      obtain ⟨kp12, ki13, kf14⟩ := kr11
      have kc15 := L0
      refine s_eq (fun kh16 => ?_) (fun kh16 => ?_)
      · have kc17 := Ln2
        have kf18 : Fr wX11_look m0 m4 := Fr.trans hF kf6 rfl
        have kf19 : Fr wX11_look m0 m6 := Fr.trans kf18 kf10 rfl
        have kf20 : Fr wX11_look m0 m8 := Fr.trans kf19 kf14 rfl
        exact s_ret ⟨trivial, ki13, kf20⟩
      · have kf21 : Fr wX11_look m0 m4 := Fr.trans hF kf6 rfl
        have kf22 : Fr wX11_look m0 m6 := Fr.trans kf21 kf10 rfl
        have kf23 : Fr wX11_look m0 m8 := Fr.trans kf22 kf14 rfl
        exact s_ret ⟨trivial, ki13, kf23⟩
    · have kc24 := L0
      refine s_eq (fun kh25 => ?_) (fun kh25 => ?_)
      · have kx26 : 0 ≤ (v6).toInt ∧ (v6).toInt < (30 : Int) := by omega
        refine s_ix kx26 ?_
        have kc27 : 0 ≤ (m.1 59 (v6).toNatClampNeg).toInt ∧ (m.1 59 (v6).toNatClampNeg).toInt ≤ 13 := hI.1 59 (v6).toNatClampNeg
        refine s_bd (zX6_whyNot_i1 (m.1 59 (v6).toNatClampNeg) m (show 0 ≤ (m.1 59 (v6).toNatClampNeg).toInt ∧ (m.1 59 (v6).toNatClampNeg).toInt ≤ 13 by omega) hI) (fun r17 kr28 => ?_)
        replace kr28 : ((-5 : Int) ≤ r17.toInt) ∧ (r17.toInt ≤ 0) := kr28
        refine s_eq (fun kh29 => ?_) (fun kh29 => ?_)
        · refine s_bd (zX6_step_i1 (m.1 59 (v6).toNatClampNeg) m (show 0 ≤ (m.1 59 (v6).toNatClampNeg).toInt ∧ (m.1 59 (v6).toNatClampNeg).toInt ≤ 13 by omega) hI) (fun r19 kr30 => ?_)
          obtain ⟨kp31, ki32, kf33⟩ := kr30
          replace kp31 : (0 ≤ r19.1.toInt) ∧ (r19.1.toInt ≤ 29) := kp31
          have kx34 : 0 ≤ ((m.1 59 (v6).toNatClampNeg)).toInt ∧ ((m.1 59 (v6).toNatClampNeg)).toInt < (14 : Int) := by omega
          refine s_ix kx34 ?_
          have kc35 : 0 ≤ (r19.2.1 11 ((m.1 59 (v6).toNatClampNeg)).toNatClampNeg).toInt ∧ (r19.2.1 11 ((m.1 59 (v6).toNatClampNeg)).toNatClampNeg).toInt ≤ 9 := ki32.1 11 ((m.1 59 (v6).toNatClampNeg)).toNatClampNeg
          have kc36 : (r19.2.1 11 ((m.1 59 (v6).toNatClampNeg)).toNatClampNeg).toInt = (m.1 11 ((m.1 59 (v6).toNatClampNeg)).toNatClampNeg).toInt := congrArg Int32.toInt (kf33 11 ((m.1 59 (v6).toNatClampNeg)).toNatClampNeg rfl)
          have kc37 : 0 ≤ (m.1 11 ((m.1 59 (v6).toNatClampNeg)).toNatClampNeg).toInt ∧ (m.1 11 ((m.1 59 (v6).toNatClampNeg)).toNatClampNeg).toInt ≤ 9 := hI.1 11 ((m.1 59 (v6).toNatClampNeg)).toNatClampNeg
          have kc38 : (v6 + (1 : Int32)).toInt = (v6).toInt + 1 := a_addl L1 (by omega) (by omega)
          have kf39 : Fr wX11_look m0 r19.2 := Fr.trans hF kf33 rfl
          exact ih (v3 + (r19.2.1 11 ((m.1 59 (v6).toNatClampNeg)).toNatClampNeg)) (v4 + (1 : Int32)) r17 (v6 + (1 : Int32)) r19.2 (show (-5 : Int) ≤ r17.toInt ∧ r17.toInt ≤ 0 ∧ 0 ≤ (v6 + (1 : Int32)).toInt ∧ (v6 + (1 : Int32)).toInt ≤ 29 ∧ 29 - (v6 + (1 : Int32)).toInt < (n : Int) by omega) ki32 kf39
        · have kc40 : (v6 + (1 : Int32)).toInt = (v6).toInt + 1 := a_addl L1 (by omega) (by omega)
          exact ih v3 v4 r17 (v6 + (1 : Int32)) m (show (-5 : Int) ≤ r17.toInt ∧ r17.toInt ≤ 0 ∧ 0 ≤ (v6 + (1 : Int32)).toInt ∧ (v6 + (1 : Int32)).toInt ≤ 29 ∧ 29 - (v6 + (1 : Int32)).toInt < (n : Int) by omega) hI hF
      · refine s_bd (zX5_tell v5 m hI) (fun m10 kr41 => ?_)
        obtain ⟨kp42, ki43, kf44⟩ := kr41
        refine s_bd (zX5_add ((m10.1 18 1) - (m10.1 16 1)) m10 ki43) (fun m12 kr45 => ?_)
        obtain ⟨kp46, ki47, kf48⟩ := kr45
        refine s_bd (zX5_add v3 m12 ki47) (fun m14 kr49 => ?_)
        obtain ⟨kp50, ki51, kf52⟩ := kr49
        refine s_eq (fun kh53 => ?_) (fun kh53 => ?_)
        · omega
        · have kf54 : Fr wX11_look m0 m10 := Fr.trans hF kf44 rfl
          have kf55 : Fr wX11_look m0 m12 := Fr.trans kf54 kf48 rfl
          have kf56 : Fr wX11_look m0 m14 := Fr.trans kf55 kf52 rfl
          exact s_ret ⟨trivial, ki51, kf56⟩
theorem zX11_look_61_1 (m0 : sm_S) : ∀ (n : Nat) (v3 : Int32) (v4 : Int32) (v5 : Int32) (v6 : Int32) (m : sm_S), ((-5 : Int) ≤ v5.toInt ∧ v5.toInt ≤ 0 ∧ 0 ≤ v6.toInt ∧ v6.toInt ≤ 29 ∧ 29 - v6.toInt < (n : Int)) → zI m → Fr wX11_look m0 m → Sf (fun r => (True) ∧ zI r.2 ∧ Fr wX11_look m0 r.2) (fX11_look_61_1 n v3 v4 v5 v6 m) := by
  intro n
  induction n with
  | zero =>
    intro v3 v4 v5 v6 m hp hI hF
    exfalso
    omega
  | succ n ih =>
    intro v3 v4 v5 v6 m hp hI hF
    have hnn : ((n + 1 : Nat) : Int) = (n : Int) + 1 := by omega
    have hfu := fuE
    unfold fX11_look_61_1
    have kc1 : 0 ≤ (m.1 62 2).toInt ∧ (m.1 62 2).toInt ≤ 29 := hI.1 62 2
    refine s_le (fun kh2 => ?_) (fun kh2 => ?_)
    · refine s_bd (zX5_tell v5 m hI) (fun m25 kr3 => ?_)
      obtain ⟨kp4, ki5, kf6⟩ := kr3
      refine s_bd (zX5_add ((m25.1 18 1) - (m25.1 16 1)) m25 ki5) (fun m27 kr7 => ?_)
      obtain ⟨kp8, ki9, kf10⟩ := kr7
      refine s_bd (zX5_add v3 m27 ki9) (fun m29 kr11 => ?_)
      obtain ⟨kp12, ki13, kf14⟩ := kr11
      have kc15 := L0
      refine s_eq (fun kh16 => ?_) (fun kh16 => ?_)
      · have kc17 := Ln2
        have kf18 : Fr wX11_look m0 m25 := Fr.trans hF kf6 rfl
        have kf19 : Fr wX11_look m0 m27 := Fr.trans kf18 kf10 rfl
        have kf20 : Fr wX11_look m0 m29 := Fr.trans kf19 kf14 rfl
        exact s_ret ⟨trivial, ki13, kf20⟩
      · have kf21 : Fr wX11_look m0 m25 := Fr.trans hF kf6 rfl
        have kf22 : Fr wX11_look m0 m27 := Fr.trans kf21 kf10 rfl
        have kf23 : Fr wX11_look m0 m29 := Fr.trans kf22 kf14 rfl
        exact s_ret ⟨trivial, ki13, kf23⟩
    · have kc24 := L0
      refine s_eq (fun kh25 => ?_) (fun kh25 => ?_)
      · have kx26 : 0 ≤ (v6).toInt ∧ (v6).toInt < (30 : Int) := by omega
        refine s_ix kx26 ?_
        have kc27 : 0 ≤ (m.1 63 (v6).toNatClampNeg).toInt ∧ (m.1 63 (v6).toNatClampNeg).toInt ≤ 13 := hI.1 63 (v6).toNatClampNeg
        refine s_bd (zX6_whyNot_i1 (m.1 63 (v6).toNatClampNeg) m (show 0 ≤ (m.1 63 (v6).toNatClampNeg).toInt ∧ (m.1 63 (v6).toNatClampNeg).toInt ≤ 13 by omega) hI) (fun r38 kr28 => ?_)
        replace kr28 : ((-5 : Int) ≤ r38.toInt) ∧ (r38.toInt ≤ 0) := kr28
        refine s_eq (fun kh29 => ?_) (fun kh29 => ?_)
        · refine s_bd (zX6_step_i1 (m.1 63 (v6).toNatClampNeg) m (show 0 ≤ (m.1 63 (v6).toNatClampNeg).toInt ∧ (m.1 63 (v6).toNatClampNeg).toInt ≤ 13 by omega) hI) (fun r40 kr30 => ?_)
          obtain ⟨kp31, ki32, kf33⟩ := kr30
          replace kp31 : (0 ≤ r40.1.toInt) ∧ (r40.1.toInt ≤ 29) := kp31
          have kx34 : 0 ≤ ((m.1 63 (v6).toNatClampNeg)).toInt ∧ ((m.1 63 (v6).toNatClampNeg)).toInt < (14 : Int) := by omega
          refine s_ix kx34 ?_
          have kc35 : 0 ≤ (r40.2.1 11 ((m.1 63 (v6).toNatClampNeg)).toNatClampNeg).toInt ∧ (r40.2.1 11 ((m.1 63 (v6).toNatClampNeg)).toNatClampNeg).toInt ≤ 9 := ki32.1 11 ((m.1 63 (v6).toNatClampNeg)).toNatClampNeg
          have kc36 : (r40.2.1 11 ((m.1 63 (v6).toNatClampNeg)).toNatClampNeg).toInt = (m.1 11 ((m.1 63 (v6).toNatClampNeg)).toNatClampNeg).toInt := congrArg Int32.toInt (kf33 11 ((m.1 63 (v6).toNatClampNeg)).toNatClampNeg rfl)
          have kc37 : 0 ≤ (m.1 11 ((m.1 63 (v6).toNatClampNeg)).toNatClampNeg).toInt ∧ (m.1 11 ((m.1 63 (v6).toNatClampNeg)).toNatClampNeg).toInt ≤ 9 := hI.1 11 ((m.1 63 (v6).toNatClampNeg)).toNatClampNeg
          have kc38 : (v6 + (1 : Int32)).toInt = (v6).toInt + 1 := a_addl L1 (by omega) (by omega)
          have kf39 : Fr wX11_look m0 r40.2 := Fr.trans hF kf33 rfl
          exact ih (v3 + (r40.2.1 11 ((m.1 63 (v6).toNatClampNeg)).toNatClampNeg)) (v4 + (1 : Int32)) r38 (v6 + (1 : Int32)) r40.2 (show (-5 : Int) ≤ r38.toInt ∧ r38.toInt ≤ 0 ∧ 0 ≤ (v6 + (1 : Int32)).toInt ∧ (v6 + (1 : Int32)).toInt ≤ 29 ∧ 29 - (v6 + (1 : Int32)).toInt < (n : Int) by omega) ki32 kf39
        · have kc40 : (v6 + (1 : Int32)).toInt = (v6).toInt + 1 := a_addl L1 (by omega) (by omega)
          exact ih v3 v4 r38 (v6 + (1 : Int32)) m (show (-5 : Int) ≤ r38.toInt ∧ r38.toInt ≤ 0 ∧ 0 ≤ (v6 + (1 : Int32)).toInt ∧ (v6 + (1 : Int32)).toInt ≤ 29 ∧ 29 - (v6 + (1 : Int32)).toInt < (n : Int) by omega) hI hF
      · refine s_bd (zX5_tell v5 m hI) (fun m31 kr41 => ?_)
        obtain ⟨kp42, ki43, kf44⟩ := kr41
        refine s_bd (zX5_add ((m31.1 18 1) - (m31.1 16 1)) m31 ki43) (fun m33 kr45 => ?_)
        obtain ⟨kp46, ki47, kf48⟩ := kr45
        refine s_bd (zX5_add v3 m33 ki47) (fun m35 kr49 => ?_)
        obtain ⟨kp50, ki51, kf52⟩ := kr49
        refine s_eq (fun kh53 => ?_) (fun kh53 => ?_)
        · omega
        · have kf54 : Fr wX11_look m0 m31 := Fr.trans hF kf44 rfl
          have kf55 : Fr wX11_look m0 m33 := Fr.trans kf54 kf48 rfl
          have kf56 : Fr wX11_look m0 m35 := Fr.trans kf55 kf52 rfl
          exact s_ret ⟨trivial, ki51, kf56⟩
theorem zX11_look (x1 : Int32) (m : sm_S) (hI : zI m) : Sf (fun r => (True) ∧ zI r.2 ∧ Fr wX11_look m r.2) (fX11_look x1 m) := by
  have hfu := fuE
  unfold fX11_look
  have kc1 := L0
  refine s_lt (fun kh2 => ?_) (fun kh2 => ?_)
  · have kc3 := Ln1
    exact s_ret ⟨trivial, hI, Fr.refl⟩
  · have kc4 := L2
    refine s_lt (fun kh5 => ?_) (fun kh5 => ?_)
    · refine s_eq (fun kh6 => ?_) (fun kh6 => ?_)
      · have kc7 : 0 ≤ (m.1 58 0).toInt ∧ (m.1 58 0).toInt ≤ 1 := hI.1 58 0
        refine s_eq (fun kh8 => ?_) (fun kh8 => ?_)
        · have kc9 := Ln3
          exact s_ret ⟨trivial, hI, Fr.refl⟩
        · refine s_bd (zX6_copyFrom m hI) (fun m2 kr10 => ?_)
          obtain ⟨kp11, ki12, kf13⟩ := kr10
          have kc14 : 0 ≤ (m2.1 58 1).toInt ∧ (m2.1 58 1).toInt ≤ 9 := ki12.1 58 1
          have kc15 : (m2.1 58 1).toInt = (m.1 58 1).toInt := congrArg Int32.toInt (kf13 58 1 rfl)
          have kc16 : 0 ≤ (m.1 58 1).toInt ∧ (m.1 58 1).toInt ≤ 9 := hI.1 58 1
          have ki17 : zI (sm_w1 m2 18 0 (m2.1 58 1)) := zI.w ki12 rfl (show 0 ≤ ((m2.1 58 1)).toInt ∧ ((m2.1 58 1)).toInt ≤ 9 by omega)
          have kf18 : Fr wX11_look m m2 := Fr.trans Fr.refl kf13 rfl
          have kf19 : Fr wX11_look m (sm_w1 m2 18 0 (m2.1 58 1)) := Fr.w kf18 rfl
          exact zX11_look_61 m sm_fu (0 : Int32) (0 : Int32) (0 : Int32) (0 : Int32) (sm_w1 m2 18 0 (m2.1 58 1)) (show (-5 : Int) ≤ (0 : Int32).toInt ∧ (0 : Int32).toInt ≤ 0 ∧ 0 ≤ (0 : Int32).toInt ∧ (0 : Int32).toInt ≤ 29 ∧ 29 - (0 : Int32).toInt < (sm_fu : Int) by omega) ki17 kf19
      · have kc20 := L1
        refine s_eq (fun kh21 => ?_) (fun kh21 => ?_)
        · have kc22 : 0 ≤ (m.1 62 0).toInt ∧ (m.1 62 0).toInt ≤ 1 := hI.1 62 0
          refine s_eq (fun kh23 => ?_) (fun kh23 => ?_)
          · have kc24 := Ln3
            exact s_ret ⟨trivial, hI, Fr.refl⟩
          · refine s_bd (zX6_copyFrom m hI) (fun m23 kr25 => ?_)
            obtain ⟨kp26, ki27, kf28⟩ := kr25
            have kc29 : 0 ≤ (m23.1 62 1).toInt ∧ (m23.1 62 1).toInt ≤ 9 := ki27.1 62 1
            have kc30 : (m23.1 62 1).toInt = (m.1 62 1).toInt := congrArg Int32.toInt (kf28 62 1 rfl)
            have kc31 : 0 ≤ (m.1 62 1).toInt ∧ (m.1 62 1).toInt ≤ 9 := hI.1 62 1
            have ki32 : zI (sm_w1 m23 18 0 (m23.1 62 1)) := zI.w ki27 rfl (show 0 ≤ ((m23.1 62 1)).toInt ∧ ((m23.1 62 1)).toInt ≤ 9 by omega)
            have kf33 : Fr wX11_look m m23 := Fr.trans Fr.refl kf28 rfl
            have kf34 : Fr wX11_look m (sm_w1 m23 18 0 (m23.1 62 1)) := Fr.w kf33 rfl
            exact zX11_look_61_1 m sm_fu (0 : Int32) (0 : Int32) (0 : Int32) (0 : Int32) (sm_w1 m23 18 0 (m23.1 62 1)) (show (-5 : Int) ≤ (0 : Int32).toInt ∧ (0 : Int32).toInt ≤ 0 ∧ 0 ≤ (0 : Int32).toInt ∧ (0 : Int32).toInt ≤ 29 ∧ 29 - (0 : Int32).toInt < (sm_fu : Int) by omega) ki32 kf34
        · omega
    · have kc35 := Ln1
      exact s_ret ⟨trivial, hI, Fr.refl⟩
theorem zX11_scheduleBoth (m : sm_S) (hI : zI m) : Sf (fun r => ((0 ≤ r.1.toInt) ∧ (r.1.toInt ≤ 1)) ∧ zI r.2 ∧ Fr wX11_scheduleBoth m r.2) (fX11_scheduleBoth m) := by
  have hfu := fuE
  unfold fX11_scheduleBoth
  have kc1 : 0 ≤ (m.1 58 0).toInt ∧ (m.1 58 0).toInt ≤ 1 := hI.1 58 0
  have kc2 := L0
  refine s_eq (fun kh3 => ?_) (fun kh3 => ?_)
  · exact s_ret ⟨(show (0 ≤ (0 : Int32).toInt) ∧ ((0 : Int32).toInt ≤ 1) by omega), hI, Fr.refl⟩
  · have kc4 : 0 ≤ (m.1 62 0).toInt ∧ (m.1 62 0).toInt ≤ 1 := hI.1 62 0
    refine s_eq (fun kh5 => ?_) (fun kh5 => ?_)
    · exact s_ret ⟨(show (0 ≤ (0 : Int32).toInt) ∧ ((0 : Int32).toInt ≤ 1) by omega), hI, Fr.refl⟩
    · refine s_bd (zX9_schedule m hI) (fun r2 kr6 => ?_)
      obtain ⟨kp7, ki8, kf9⟩ := kr6
      refine s_bd (zX9_schedule_i1 r2.2 ki8) (fun r4 kr10 => ?_)
      obtain ⟨kp11, ki12, kf13⟩ := kr10
      have kc14 := L1
      have kf15 : Fr wX11_scheduleBoth m r2.2 := Fr.trans Fr.refl kf9 rfl
      have kf16 : Fr wX11_scheduleBoth m r4.2 := Fr.trans kf15 kf13 rfl
      exact s_ret ⟨(show (0 ≤ (1 : Int32).toInt) ∧ ((1 : Int32).toInt ≤ 1) by omega), ki12, kf16⟩
theorem zX9_minuteOfBoth (x1 : Int32) (x2 : Int32) (x3 : Int32) (m : sm_S) (hp : 0 ≤ x1.toInt ∧ x1.toInt ≤ 29 ∧ 0 ≤ x2.toInt ∧ x2.toInt ≤ 29 ∧ 0 ≤ x3.toInt ∧ x3.toInt ≤ 99) (hI : zI m) : Sf (fun r => True) (fX9_minuteOfBoth x1 x2 x3 m) := by
  have hfu := fuE
  unfold fX9_minuteOfBoth
  have kc1 := L0
  refine s_eq (fun kh2 => ?_) (fun kh2 => ?_)
  · have kc3 : 0 ≤ (m.1 62 2).toInt ∧ (m.1 62 2).toInt ≤ 29 := hI.1 62 2
    refine s_eq (fun kh4 => ?_) (fun kh4 => ?_)
    · have kc5 : 0 ≤ (m.1 58 2).toInt ∧ (m.1 58 2).toInt ≤ 29 := hI.1 58 2
      refine s_eq (fun kh6 => ?_) (fun kh6 => ?_)
      · have kx7 : 0 ≤ (x1).toInt ∧ (x1).toInt < (30 : Int) := by omega
        refine s_ix kx7 ?_
        have kc8 := L65535
        have kc9 : (((65535 : Int32)).toInt < ((65535 : Int32)).toInt ∧ (if (65535 : Int32) < (65535 : Int32) then (65535 : Int32) else (65535 : Int32)).toInt = ((65535 : Int32)).toInt) ∨ (((65535 : Int32)).toInt ≤ ((65535 : Int32)).toInt ∧ (if (65535 : Int32) < (65535 : Int32) then (65535 : Int32) else (65535 : Int32)).toInt = ((65535 : Int32)).toInt) := a_ilt
        have kc10 : (((m.1 61 (x1).toNatClampNeg)).toInt < ((0 : Int32)).toInt ∧ (if (m.1 61 (x1).toNatClampNeg) < (0 : Int32) then (0 : Int32) else (m.1 61 (x1).toNatClampNeg)).toInt = ((0 : Int32)).toInt) ∨ (((0 : Int32)).toInt ≤ ((m.1 61 (x1).toNatClampNeg)).toInt ∧ (if (m.1 61 (x1).toNatClampNeg) < (0 : Int32) then (0 : Int32) else (m.1 61 (x1).toNatClampNeg)).toInt = ((m.1 61 (x1).toNatClampNeg)).toInt) := a_ilt
        refine s_lt (fun kh11 => ?_) (fun kh11 => ?_)
        · exact s_ret trivial
        · exact s_ret trivial
      · have kx12 : 0 ≤ (x1).toInt ∧ (x1).toInt < (30 : Int) := by omega
        refine s_ix kx12 ?_
        refine s_ix kx12 ?_
        have kc13 := L65535
        have kc14 : (((65535 : Int32)).toInt < ((m.1 61 (x1).toNatClampNeg)).toInt ∧ (if (65535 : Int32) < (m.1 61 (x1).toNatClampNeg) then (65535 : Int32) else (m.1 61 (x1).toNatClampNeg)).toInt = ((65535 : Int32)).toInt) ∨ (((m.1 61 (x1).toNatClampNeg)).toInt ≤ ((65535 : Int32)).toInt ∧ (if (65535 : Int32) < (m.1 61 (x1).toNatClampNeg) then (65535 : Int32) else (m.1 61 (x1).toNatClampNeg)).toInt = ((m.1 61 (x1).toNatClampNeg)).toInt) := a_ilt
        have kc15 : (((m.1 61 (x1).toNatClampNeg)).toInt < ((0 : Int32)).toInt ∧ (if (m.1 61 (x1).toNatClampNeg) < (0 : Int32) then (0 : Int32) else (m.1 61 (x1).toNatClampNeg)).toInt = ((0 : Int32)).toInt) ∨ (((0 : Int32)).toInt ≤ ((m.1 61 (x1).toNatClampNeg)).toInt ∧ (if (m.1 61 (x1).toNatClampNeg) < (0 : Int32) then (0 : Int32) else (m.1 61 (x1).toNatClampNeg)).toInt = ((m.1 61 (x1).toNatClampNeg)).toInt) := a_ilt
        refine s_lt (fun kh16 => ?_) (fun kh16 => ?_)
        · exact s_ret trivial
        · exact s_ret trivial
    · have kx17 : 0 ≤ (x2).toInt ∧ (x2).toInt < (30 : Int) := by omega
      refine s_ix kx17 ?_
      have kc18 : 0 ≤ (m.1 58 2).toInt ∧ (m.1 58 2).toInt ≤ 29 := hI.1 58 2
      refine s_eq (fun kh19 => ?_) (fun kh19 => ?_)
      · have kx20 : 0 ≤ (x1).toInt ∧ (x1).toInt < (30 : Int) := by omega
        refine s_ix kx20 ?_
        have kc21 := L65535
        have kc22 : (((x3 + (m.1 65 (x2).toNatClampNeg))).toInt < ((65535 : Int32)).toInt ∧ (if (x3 + (m.1 65 (x2).toNatClampNeg)) < (65535 : Int32) then (x3 + (m.1 65 (x2).toNatClampNeg)) else (65535 : Int32)).toInt = ((x3 + (m.1 65 (x2).toNatClampNeg))).toInt) ∨ (((65535 : Int32)).toInt ≤ ((x3 + (m.1 65 (x2).toNatClampNeg))).toInt ∧ (if (x3 + (m.1 65 (x2).toNatClampNeg)) < (65535 : Int32) then (x3 + (m.1 65 (x2).toNatClampNeg)) else (65535 : Int32)).toInt = ((65535 : Int32)).toInt) := a_ilt
        have kc23 : (((m.1 61 (x1).toNatClampNeg)).toInt < ((0 : Int32)).toInt ∧ (if (m.1 61 (x1).toNatClampNeg) < (0 : Int32) then (0 : Int32) else (m.1 61 (x1).toNatClampNeg)).toInt = ((0 : Int32)).toInt) ∨ (((0 : Int32)).toInt ≤ ((m.1 61 (x1).toNatClampNeg)).toInt ∧ (if (m.1 61 (x1).toNatClampNeg) < (0 : Int32) then (0 : Int32) else (m.1 61 (x1).toNatClampNeg)).toInt = ((m.1 61 (x1).toNatClampNeg)).toInt) := a_ilt
        refine s_lt (fun kh24 => ?_) (fun kh24 => ?_)
        · exact s_ret trivial
        · exact s_ret trivial
      · have kx25 : 0 ≤ (x1).toInt ∧ (x1).toInt < (30 : Int) := by omega
        refine s_ix kx25 ?_
        refine s_ix kx25 ?_
        have kc26 : (((x3 + (m.1 65 (x2).toNatClampNeg))).toInt < ((m.1 61 (x1).toNatClampNeg)).toInt ∧ (if (x3 + (m.1 65 (x2).toNatClampNeg)) < (m.1 61 (x1).toNatClampNeg) then (x3 + (m.1 65 (x2).toNatClampNeg)) else (m.1 61 (x1).toNatClampNeg)).toInt = ((x3 + (m.1 65 (x2).toNatClampNeg))).toInt) ∨ (((m.1 61 (x1).toNatClampNeg)).toInt ≤ ((x3 + (m.1 65 (x2).toNatClampNeg))).toInt ∧ (if (x3 + (m.1 65 (x2).toNatClampNeg)) < (m.1 61 (x1).toNatClampNeg) then (x3 + (m.1 65 (x2).toNatClampNeg)) else (m.1 61 (x1).toNatClampNeg)).toInt = ((m.1 61 (x1).toNatClampNeg)).toInt) := a_ilt
        have kc27 : (((m.1 61 (x1).toNatClampNeg)).toInt < ((0 : Int32)).toInt ∧ (if (m.1 61 (x1).toNatClampNeg) < (0 : Int32) then (0 : Int32) else (m.1 61 (x1).toNatClampNeg)).toInt = ((0 : Int32)).toInt) ∨ (((0 : Int32)).toInt ≤ ((m.1 61 (x1).toNatClampNeg)).toInt ∧ (if (m.1 61 (x1).toNatClampNeg) < (0 : Int32) then (0 : Int32) else (m.1 61 (x1).toNatClampNeg)).toInt = ((m.1 61 (x1).toNatClampNeg)).toInt) := a_ilt
        refine s_lt (fun kh28 => ?_) (fun kh28 => ?_)
        · have kc29 := L65535
          exact s_ret trivial
        · exact s_ret trivial
  · have kx30 : 0 ≤ (x2).toInt ∧ (x2).toInt < (30 : Int) := by omega
    refine s_ix kx30 ?_
    have kc31 : 0 ≤ (m.1 62 2).toInt ∧ (m.1 62 2).toInt ≤ 29 := hI.1 62 2
    refine s_eq (fun kh32 => ?_) (fun kh32 => ?_)
    · have kc33 : 0 ≤ (m.1 58 2).toInt ∧ (m.1 58 2).toInt ≤ 29 := hI.1 58 2
      refine s_eq (fun kh34 => ?_) (fun kh34 => ?_)
      · have kx35 : 0 ≤ (x1).toInt ∧ (x1).toInt < (30 : Int) := by omega
        refine s_ix kx35 ?_
        have kc36 := L65535
        have kc37 : (((65535 : Int32)).toInt < ((65535 : Int32)).toInt ∧ (if (65535 : Int32) < (65535 : Int32) then (65535 : Int32) else (65535 : Int32)).toInt = ((65535 : Int32)).toInt) ∨ (((65535 : Int32)).toInt ≤ ((65535 : Int32)).toInt ∧ (if (65535 : Int32) < (65535 : Int32) then (65535 : Int32) else (65535 : Int32)).toInt = ((65535 : Int32)).toInt) := a_ilt
        have kc38 : (((m.1 61 (x1).toNatClampNeg)).toInt < ((x3 + (m.1 65 (x2).toNatClampNeg))).toInt ∧ (if (m.1 61 (x1).toNatClampNeg) < (x3 + (m.1 65 (x2).toNatClampNeg)) then (x3 + (m.1 65 (x2).toNatClampNeg)) else (m.1 61 (x1).toNatClampNeg)).toInt = ((x3 + (m.1 65 (x2).toNatClampNeg))).toInt) ∨ (((x3 + (m.1 65 (x2).toNatClampNeg))).toInt ≤ ((m.1 61 (x1).toNatClampNeg)).toInt ∧ (if (m.1 61 (x1).toNatClampNeg) < (x3 + (m.1 65 (x2).toNatClampNeg)) then (x3 + (m.1 65 (x2).toNatClampNeg)) else (m.1 61 (x1).toNatClampNeg)).toInt = ((m.1 61 (x1).toNatClampNeg)).toInt) := a_ilt
        refine s_lt (fun kh39 => ?_) (fun kh39 => ?_)
        · exact s_ret trivial
        · exact s_ret trivial
      · have kx40 : 0 ≤ (x1).toInt ∧ (x1).toInt < (30 : Int) := by omega
        refine s_ix kx40 ?_
        refine s_ix kx40 ?_
        have kc41 := L65535
        have kc42 : (((65535 : Int32)).toInt < ((m.1 61 (x1).toNatClampNeg)).toInt ∧ (if (65535 : Int32) < (m.1 61 (x1).toNatClampNeg) then (65535 : Int32) else (m.1 61 (x1).toNatClampNeg)).toInt = ((65535 : Int32)).toInt) ∨ (((m.1 61 (x1).toNatClampNeg)).toInt ≤ ((65535 : Int32)).toInt ∧ (if (65535 : Int32) < (m.1 61 (x1).toNatClampNeg) then (65535 : Int32) else (m.1 61 (x1).toNatClampNeg)).toInt = ((m.1 61 (x1).toNatClampNeg)).toInt) := a_ilt
        have kc43 : (((m.1 61 (x1).toNatClampNeg)).toInt < ((x3 + (m.1 65 (x2).toNatClampNeg))).toInt ∧ (if (m.1 61 (x1).toNatClampNeg) < (x3 + (m.1 65 (x2).toNatClampNeg)) then (x3 + (m.1 65 (x2).toNatClampNeg)) else (m.1 61 (x1).toNatClampNeg)).toInt = ((x3 + (m.1 65 (x2).toNatClampNeg))).toInt) ∨ (((x3 + (m.1 65 (x2).toNatClampNeg))).toInt ≤ ((m.1 61 (x1).toNatClampNeg)).toInt ∧ (if (m.1 61 (x1).toNatClampNeg) < (x3 + (m.1 65 (x2).toNatClampNeg)) then (x3 + (m.1 65 (x2).toNatClampNeg)) else (m.1 61 (x1).toNatClampNeg)).toInt = ((m.1 61 (x1).toNatClampNeg)).toInt) := a_ilt
        refine s_lt (fun kh44 => ?_) (fun kh44 => ?_)
        · exact s_ret trivial
        · exact s_ret trivial
    · refine s_ix kx30 ?_
      have kc45 : 0 ≤ (m.1 58 2).toInt ∧ (m.1 58 2).toInt ≤ 29 := hI.1 58 2
      refine s_eq (fun kh46 => ?_) (fun kh46 => ?_)
      · have kx47 : 0 ≤ (x1).toInt ∧ (x1).toInt < (30 : Int) := by omega
        refine s_ix kx47 ?_
        have kc48 := L65535
        have kc49 : (((x3 + (m.1 65 (x2).toNatClampNeg))).toInt < ((65535 : Int32)).toInt ∧ (if (x3 + (m.1 65 (x2).toNatClampNeg)) < (65535 : Int32) then (x3 + (m.1 65 (x2).toNatClampNeg)) else (65535 : Int32)).toInt = ((x3 + (m.1 65 (x2).toNatClampNeg))).toInt) ∨ (((65535 : Int32)).toInt ≤ ((x3 + (m.1 65 (x2).toNatClampNeg))).toInt ∧ (if (x3 + (m.1 65 (x2).toNatClampNeg)) < (65535 : Int32) then (x3 + (m.1 65 (x2).toNatClampNeg)) else (65535 : Int32)).toInt = ((65535 : Int32)).toInt) := a_ilt
        have kc50 : (((m.1 61 (x1).toNatClampNeg)).toInt < ((x3 + (m.1 65 (x2).toNatClampNeg))).toInt ∧ (if (m.1 61 (x1).toNatClampNeg) < (x3 + (m.1 65 (x2).toNatClampNeg)) then (x3 + (m.1 65 (x2).toNatClampNeg)) else (m.1 61 (x1).toNatClampNeg)).toInt = ((x3 + (m.1 65 (x2).toNatClampNeg))).toInt) ∨ (((x3 + (m.1 65 (x2).toNatClampNeg))).toInt ≤ ((m.1 61 (x1).toNatClampNeg)).toInt ∧ (if (m.1 61 (x1).toNatClampNeg) < (x3 + (m.1 65 (x2).toNatClampNeg)) then (x3 + (m.1 65 (x2).toNatClampNeg)) else (m.1 61 (x1).toNatClampNeg)).toInt = ((m.1 61 (x1).toNatClampNeg)).toInt) := a_ilt
        refine s_lt (fun kh51 => ?_) (fun kh51 => ?_)
        · exact s_ret trivial
        · exact s_ret trivial
      · have kx52 : 0 ≤ (x1).toInt ∧ (x1).toInt < (30 : Int) := by omega
        refine s_ix kx52 ?_
        refine s_ix kx52 ?_
        have kc53 : (((x3 + (m.1 65 (x2).toNatClampNeg))).toInt < ((m.1 61 (x1).toNatClampNeg)).toInt ∧ (if (x3 + (m.1 65 (x2).toNatClampNeg)) < (m.1 61 (x1).toNatClampNeg) then (x3 + (m.1 65 (x2).toNatClampNeg)) else (m.1 61 (x1).toNatClampNeg)).toInt = ((x3 + (m.1 65 (x2).toNatClampNeg))).toInt) ∨ (((m.1 61 (x1).toNatClampNeg)).toInt ≤ ((x3 + (m.1 65 (x2).toNatClampNeg))).toInt ∧ (if (x3 + (m.1 65 (x2).toNatClampNeg)) < (m.1 61 (x1).toNatClampNeg) then (x3 + (m.1 65 (x2).toNatClampNeg)) else (m.1 61 (x1).toNatClampNeg)).toInt = ((m.1 61 (x1).toNatClampNeg)).toInt) := a_ilt
        have kc54 : (((m.1 61 (x1).toNatClampNeg)).toInt < ((x3 + (m.1 65 (x2).toNatClampNeg))).toInt ∧ (if (m.1 61 (x1).toNatClampNeg) < (x3 + (m.1 65 (x2).toNatClampNeg)) then (x3 + (m.1 65 (x2).toNatClampNeg)) else (m.1 61 (x1).toNatClampNeg)).toInt = ((x3 + (m.1 65 (x2).toNatClampNeg))).toInt) ∨ (((x3 + (m.1 65 (x2).toNatClampNeg))).toInt ≤ ((m.1 61 (x1).toNatClampNeg)).toInt ∧ (if (m.1 61 (x1).toNatClampNeg) < (x3 + (m.1 65 (x2).toNatClampNeg)) then (x3 + (m.1 65 (x2).toNatClampNeg)) else (m.1 61 (x1).toNatClampNeg)).toInt = ((m.1 61 (x1).toNatClampNeg)).toInt) := a_ilt
        refine s_lt (fun kh55 => ?_) (fun kh55 => ?_)
        · have kc56 := L65535
          exact s_ret trivial
        · exact s_ret trivial
