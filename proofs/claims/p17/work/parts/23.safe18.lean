theorem zX12_goesThrough_2 (m0 : sm_S) : ∀ (n : Nat) (v1 : Int32) (v2 : Int32) (m : sm_S), (0 ≤ v1.toInt ∧ v1.toInt ≤ 13 ∧ 0 ≤ v2.toInt ∧ v2.toInt ≤ 10 ∧ v1.toInt < (m.1 72 6).toInt ∧ 10 - v2.toInt < (n : Int)) → zI m → Fr wX12_goesThrough m0 m → Sf (fun r => (True) ∧ zI r ∧ Fr wX12_goesThrough m0 r) (fX12_goesThrough_2 n v1 v2 m) := by
  intro n
  induction n with
  | zero =>
    intro v1 v2 m hp hI hF
    have kc1 : 0 ≤ (m.1 72 6).toInt ∧ (m.1 72 6).toInt ≤ 14 := hI.1 72 6
    have kc2 : 0 ≤ (m.1 72 25).toInt ∧ (m.1 72 25).toInt ≤ 14 := hI.1 72 25
    have kc3 := zI.le hI
    exfalso
    omega
  | succ n ih =>
    intro v1 v2 m hp hI hF
    have hnn : ((n + 1 : Nat) : Int) = (n : Int) + 1 := by omega
    have hfu := fuE
    have kc1 : 0 ≤ (m.1 72 6).toInt ∧ (m.1 72 6).toInt ≤ 14 := hI.1 72 6
    have kc2 : 0 ≤ (m.1 72 25).toInt ∧ (m.1 72 25).toInt ≤ 14 := hI.1 72 25
    have kc3 := zI.le hI
    unfold fX12_goesThrough_2
    have kc4 : 0 ≤ (m.1 72 3).toInt ∧ (m.1 72 3).toInt ≤ 10 := hI.1 72 3
    refine s_le (fun kh5 => ?_) (fun kh5 => ?_)
    · have kc6 := L0
      exact zX12_goesThrough_27 m0 sm_fu v1 (0 : Int32) m (show 0 ≤ v1.toInt ∧ v1.toInt ≤ 13 ∧ 0 ≤ (0 : Int32).toInt ∧ (0 : Int32).toInt ≤ 10 ∧ v1.toInt < (m.1 72 6).toInt ∧ 10 - (0 : Int32).toInt < (sm_fu : Int) by omega) hI hF
    · have kx7 : 0 ≤ (v2).toInt ∧ (v2).toInt < (10 : Int) := by omega
      refine s_ix kx7 ?_
      have kc8 : (v2 + (1 : Int32)).toInt = (v2).toInt + 1 := a_addl L1 (by omega) (by omega)
      have kc9 := L1000000
      have ki10 : zI (sm_w1 m 101 (v2).toNatClampNeg (1000000 : Int32)) := zI.w hI rfl (show 0 ≤ ((1000000 : Int32)).toInt ∧ ((1000000 : Int32)).toInt ≤ 1000000 by omega)
      have kc11 : 0 ≤ ((sm_w1 m 101 (v2).toNatClampNeg (1000000 : Int32)).1 72 6).toInt ∧ ((sm_w1 m 101 (v2).toNatClampNeg (1000000 : Int32)).1 72 6).toInt ≤ 14 := ki10.1 72 6
      have kc12 : 0 ≤ ((sm_w1 m 101 (v2).toNatClampNeg (1000000 : Int32)).1 72 25).toInt ∧ ((sm_w1 m 101 (v2).toNatClampNeg (1000000 : Int32)).1 72 25).toInt ≤ 14 := ki10.1 72 25
      have kc13 := zI.le ki10
      have kc14 : ((sm_w1 m 101 (v2).toNatClampNeg (1000000 : Int32)).1 72 25).toInt = (m.1 72 25).toInt := congrArg Int32.toInt (r_cell (by decide))
      have kc15 : ((sm_w1 m 101 (v2).toNatClampNeg (1000000 : Int32)).1 72 6).toInt = (m.1 72 6).toInt := congrArg Int32.toInt (r_cell (by decide))
      have kf16 : Fr wX12_goesThrough m0 (sm_w1 m 101 (v2).toNatClampNeg (1000000 : Int32)) := Fr.w hF rfl
      exact ih v1 (v2 + (1 : Int32)) (sm_w1 m 101 (v2).toNatClampNeg (1000000 : Int32)) (show 0 ≤ v1.toInt ∧ v1.toInt ≤ 13 ∧ 0 ≤ (v2 + (1 : Int32)).toInt ∧ (v2 + (1 : Int32)).toInt ≤ 10 ∧ v1.toInt < ((sm_w1 m 101 (v2).toNatClampNeg (1000000 : Int32)).1 72 6).toInt ∧ 10 - (v2 + (1 : Int32)).toInt < (n : Int) by omega) ki10 kf16
theorem zX12_goesThrough (x1 : Int32) (m : sm_S) (hp : 0 ≤ x1.toInt ∧ x1.toInt ≤ 13 ∧ x1.toInt < (m.1 72 6).toInt) (hI : zI m) : Sf (fun r => (True) ∧ zI r ∧ Fr wX12_goesThrough m r) (fX12_goesThrough x1 m) := by
  have hfu := fuE
  have kc1 : 0 ≤ (m.1 72 6).toInt ∧ (m.1 72 6).toInt ≤ 14 := hI.1 72 6
  have kc2 : 0 ≤ (m.1 72 25).toInt ∧ (m.1 72 25).toInt ≤ 14 := hI.1 72 25
  have kc3 := zI.le hI
  unfold fX12_goesThrough
  have kc4 := L0
  exact zX12_goesThrough_2 m sm_fu x1 (0 : Int32) m (show 0 ≤ x1.toInt ∧ x1.toInt ≤ 13 ∧ 0 ≤ (0 : Int32).toInt ∧ (0 : Int32).toInt ≤ 10 ∧ x1.toInt < (m.1 72 6).toInt ∧ 10 - (0 : Int32).toInt < (sm_fu : Int) by omega) hI Fr.refl
theorem zX12_heard (x1 : Int32) (x2 : Int32) (m : sm_S) (hI : zI m) : Sf (fun r => (((-1 : Int) ≤ r.1.toInt) ∧ (r.1.toInt ≤ 12)) ∧ zI r.2 ∧ Fr wX12_heard m r.2) (fX12_heard x1 x2 m) := by
  have hfu := fuE
  unfold fX12_heard
  have kc1 := L0
  have ki2 : zI (sm_w1 m 72 0 (0 : Int32)) := zI.w hI rfl (show 0 ≤ ((0 : Int32)).toInt ∧ ((0 : Int32)).toInt ≤ 1 by omega)
  refine s_bd (zX12_isHedge x1 (sm_w1 m 72 0 (0 : Int32)) ki2) (fun r2 kr3 => ?_)
  replace kr3 : (0 ≤ r2.toInt) ∧ (r2.toInt ≤ 1) ∧ ((r2.toInt = 0 ∧ (x1.toInt < 0 ∨ ((sm_w1 m 72 0 (0 : Int32)).1 72 6).toInt ≤ x1.toInt)) ∨ (r2.toInt = 1 ∧ 0 ≤ x1.toInt ∧ x1.toInt < ((sm_w1 m 72 0 (0 : Int32)).1 72 6).toInt)) := kr3
  have kc4 : 0 ≤ ((sm_w1 m 72 0 (0 : Int32)).1 72 6).toInt ∧ ((sm_w1 m 72 0 (0 : Int32)).1 72 6).toInt ≤ 14 := ki2.1 72 6
  have kc5 : 0 ≤ ((sm_w1 m 72 0 (0 : Int32)).1 72 25).toInt ∧ ((sm_w1 m 72 0 (0 : Int32)).1 72 25).toInt ≤ 14 := ki2.1 72 25
  have kc6 := zI.le ki2
  have kc7 : ((sm_w1 m 72 0 (0 : Int32)).1 72 25).toInt = (m.1 72 25).toInt := rfl
  have kc8 : 0 ≤ (m.1 72 25).toInt ∧ (m.1 72 25).toInt ≤ 14 := hI.1 72 25
  have kc9 : 0 ≤ (m.1 72 6).toInt ∧ (m.1 72 6).toInt ≤ 14 := hI.1 72 6
  have kc10 := zI.le hI
  have kc11 : ((sm_w1 m 72 0 (0 : Int32)).1 72 6).toInt = (m.1 72 6).toInt := rfl
  refine s_eq (fun kh12 => ?_) (fun kh12 => ?_)
  · have kc13 := Ln1
    have kf14 : Fr wX12_heard m (sm_w1 m 72 0 (0 : Int32)) := Fr.w Fr.refl rfl
    exact s_ret ⟨(show ((-1 : Int) ≤ (-1 : Int32).toInt) ∧ ((-1 : Int32).toInt ≤ 12) by omega), ki2, kf14⟩
  · have kc15 : (x2).toInt64.toInt = (x2).toInt := Int32.toInt_toInt64 _
    have kc16 := LL0
    have kc17 := LL6
    refine s_bd (zX12_in (x2).toInt64 (0 : Int64) (6 : Int64) (sm_w1 m 72 0 (0 : Int32)) (show (-1 : Int) ≤ (0 : Int64).toInt ∧ (0 : Int64).toInt ≤ 48 ∧ (-1 : Int) ≤ (6 : Int64).toInt ∧ (6 : Int64).toInt ≤ 9999 by omega) ki2) (fun r4 kr18 => ?_)
    replace kr18 : (0 ≤ r4.toInt) ∧ (r4.toInt ≤ 1) ∧ ((r4.toInt = 0 ∧ ((x2).toInt64.toInt < (0 : Int64).toInt ∨ (6 : Int64).toInt < (x2).toInt64.toInt)) ∨ (r4.toInt = 1 ∧ (0 : Int64).toInt ≤ (x2).toInt64.toInt ∧ (x2).toInt64.toInt ≤ (6 : Int64).toInt)) := kr18
    refine s_eq (fun kh19 => ?_) (fun kh19 => ?_)
    · have kc20 := Ln1
      have kf21 : Fr wX12_heard m (sm_w1 m 72 0 (0 : Int32)) := Fr.w Fr.refl rfl
      exact s_ret ⟨(show ((-1 : Int) ≤ (-1 : Int32).toInt) ∧ ((-1 : Int32).toInt ≤ 12) by omega), ki2, kf21⟩
    · have kc22 : 0 ≤ (m.1 72 51).toInt ∧ (m.1 72 51).toInt ≤ 12 := hI.1 72 51
      have kc23 := L12
      refine s_eq (fun kh24 => ?_) (fun kh24 => ?_)
      · have kc25 := Ln1
        have kf26 : Fr wX12_heard m (sm_w1 m 72 0 (0 : Int32)) := Fr.w Fr.refl rfl
        exact s_ret ⟨(show ((-1 : Int) ≤ (-1 : Int32).toInt) ∧ ((-1 : Int32).toInt ≤ 12) by omega), ki2, kf26⟩
      · have kx27 : 0 ≤ ((m.1 72 51)).toInt ∧ ((m.1 72 51)).toInt < (12 : Int) := by omega
        refine s_ix kx27 ?_
        refine s_ix kx27 ?_
        have kc28 : ((m.1 72 51) + (1 : Int32)).toInt = ((m.1 72 51)).toInt + 1 := a_addl L1 (by omega) (by omega)
        have ki29 : zI (sm_w1 (sm_w1 m 72 0 (0 : Int32)) 102 ((m.1 72 51)).toNatClampNeg x1) := zI.w ki2 rfl (show 0 ≤ (x1).toInt ∧ (x1).toInt ≤ 13 by omega)
        have ki30 : zI (sm_w1 (sm_w1 (sm_w1 m 72 0 (0 : Int32)) 102 ((m.1 72 51)).toNatClampNeg x1) 103 ((m.1 72 51)).toNatClampNeg x2) := zI.w ki29 rfl (show 0 ≤ (x2).toInt ∧ (x2).toInt ≤ 6 by omega)
        have ki31 : zI (sm_w1 (sm_w1 (sm_w1 (sm_w1 m 72 0 (0 : Int32)) 102 ((m.1 72 51)).toNatClampNeg x1) 103 ((m.1 72 51)).toNatClampNeg x2) 72 51 ((m.1 72 51) + (1 : Int32))) := zI.w ki30 rfl (show 0 ≤ (((m.1 72 51) + (1 : Int32))).toInt ∧ (((m.1 72 51) + (1 : Int32))).toInt ≤ 12 by omega)
        have kf32 : Fr wX12_heard m (sm_w1 m 72 0 (0 : Int32)) := Fr.w Fr.refl rfl
        have kf33 : Fr wX12_heard m (sm_w1 (sm_w1 m 72 0 (0 : Int32)) 102 ((m.1 72 51)).toNatClampNeg x1) := Fr.w kf32 rfl
        have kf34 : Fr wX12_heard m (sm_w1 (sm_w1 (sm_w1 m 72 0 (0 : Int32)) 102 ((m.1 72 51)).toNatClampNeg x1) 103 ((m.1 72 51)).toNatClampNeg x2) := Fr.w kf33 rfl
        have kf35 : Fr wX12_heard m (sm_w1 (sm_w1 (sm_w1 (sm_w1 m 72 0 (0 : Int32)) 102 ((m.1 72 51)).toNatClampNeg x1) 103 ((m.1 72 51)).toNatClampNeg x2) 72 51 ((m.1 72 51) + (1 : Int32))) := Fr.w kf34 rfl
        exact s_ret ⟨(show ((-1 : Int) ≤ ((m.1 72 51) + (1 : Int32)).toInt) ∧ (((m.1 72 51) + (1 : Int32)).toInt ≤ 12) by omega), ki31, kf35⟩
theorem zX12_forget (m : sm_S) (hI : zI m) : Sf (fun r => (((-1 : Int) ≤ r.1.toInt) ∧ (r.1.toInt ≤ 11)) ∧ zI r.2 ∧ Fr wX12_forget m r.2) (fX12_forget m) := by
  have hfu := fuE
  unfold fX12_forget
  have kc1 : 0 ≤ (m.1 72 51).toInt ∧ (m.1 72 51).toInt ≤ 12 := hI.1 72 51
  have kc2 := L0
  refine s_eq (fun kh3 => ?_) (fun kh3 => ?_)
  · have kc4 := Ln1
    have ki5 : zI (sm_w1 m 72 0 (0 : Int32)) := zI.w hI rfl (show 0 ≤ ((0 : Int32)).toInt ∧ ((0 : Int32)).toInt ≤ 1 by omega)
    have kf6 : Fr wX12_forget m (sm_w1 m 72 0 (0 : Int32)) := Fr.w Fr.refl rfl
    exact s_ret ⟨(show ((-1 : Int) ≤ (-1 : Int32).toInt) ∧ ((-1 : Int32).toInt ≤ 11) by omega), ki5, kf6⟩
  · have kc7 : ((m.1 72 51) - (1 : Int32)).toInt = ((m.1 72 51)).toInt - 1 := a_subl L1 (by omega) (by omega)
    have ki8 : zI (sm_w1 m 72 0 (0 : Int32)) := zI.w hI rfl (show 0 ≤ ((0 : Int32)).toInt ∧ ((0 : Int32)).toInt ≤ 1 by omega)
    have ki9 : zI (sm_w1 (sm_w1 m 72 0 (0 : Int32)) 72 51 ((m.1 72 51) - (1 : Int32))) := zI.w ki8 rfl (show 0 ≤ (((m.1 72 51) - (1 : Int32))).toInt ∧ (((m.1 72 51) - (1 : Int32))).toInt ≤ 12 by omega)
    have kf10 : Fr wX12_forget m (sm_w1 m 72 0 (0 : Int32)) := Fr.w Fr.refl rfl
    have kf11 : Fr wX12_forget m (sm_w1 (sm_w1 m 72 0 (0 : Int32)) 72 51 ((m.1 72 51) - (1 : Int32))) := Fr.w kf10 rfl
    exact s_ret ⟨(show ((-1 : Int) ≤ ((m.1 72 51) - (1 : Int32)).toInt) ∧ (((m.1 72 51) - (1 : Int32)).toInt ≤ 11) by omega), ki9, kf11⟩
theorem zX12_cowsOf (x1 : Int32) (x2 : Int32) (m : sm_S) (hp : 0 ≤ x1.toInt ∧ x1.toInt ≤ 4095 ∧ (-1 : Int) ≤ x2.toInt ∧ x2.toInt ≤ 9) (hI : zI m) : Sf (fun r => (0 ≤ r.toInt) ∧ (r.toInt ≤ 3)) (fX12_cowsOf x1 x2 m) := by
  have hfu := fuE
  unfold fX12_cowsOf
  have kc1 := L2
  have kc2 := L5
  have kc3 : ((5 : Int32) - x2).toInt = ((5 : Int32)).toInt - (x2).toInt := a_sub (by omega) (by omega)
  have kc4 : ((2 : Int32) * ((5 : Int32) - x2)).toInt = 2 * (((5 : Int32) - x2)).toInt := a_mul L2 rfl (by omega) (by omega)
  have kc5 := L31
  have kc6 : 0 ≤ (((2 : Int32) * ((5 : Int32) - x2)) &&& (31 : Int32)).toInt ∧ (((2 : Int32) * ((5 : Int32) - x2)) &&& (31 : Int32)).toInt ≤ ((31 : Int32)).toInt := a_andr (by omega)
  have kc7 : 0 ≤ (x1 >>> (((2 : Int32) * ((5 : Int32) - x2)) &&& (31 : Int32))).toInt ∧ (x1 >>> (((2 : Int32) * ((5 : Int32) - x2)) &&& (31 : Int32))).toInt ≤ (x1).toInt := a_shr (by omega)
  have kc8 := L3
  have kc9 : 0 ≤ ((x1 >>> (((2 : Int32) * ((5 : Int32) - x2)) &&& (31 : Int32))) &&& (3 : Int32)).toInt ∧ ((x1 >>> (((2 : Int32) * ((5 : Int32) - x2)) &&& (31 : Int32))) &&& (3 : Int32)).toInt ≤ ((3 : Int32)).toInt := a_andr (by omega)
  have kc10 : 0 ≤ ((x1 >>> (((2 : Int32) * ((5 : Int32) - x2)) &&& (31 : Int32))) &&& (3 : Int32)).toInt ∧ ((x1 >>> (((2 : Int32) * ((5 : Int32) - x2)) &&& (31 : Int32))) &&& (3 : Int32)).toInt ≤ ((x1 >>> (((2 : Int32) * ((5 : Int32) - x2)) &&& (31 : Int32)))).toInt := a_andl (by omega)
  exact s_ret (show (0 ≤ ((x1 >>> (((2 : Int32) * ((5 : Int32) - x2)) &&& (31 : Int32))) &&& (3 : Int32)).toInt) ∧ (((x1 >>> (((2 : Int32) * ((5 : Int32) - x2)) &&& (31 : Int32))) &&& (3 : Int32)).toInt ≤ 3) by omega)
theorem zX12_digitsOf_4 : ∀ (n : Nat) (v0 : Int32) (v1 : Int32) (v2 : Int32) (m : sm_S), (0 ≤ v0.toInt ∧ v0.toInt ≤ 4095 ∧ 0 ≤ v2.toInt ∧ v2.toInt ≤ 6 ∧ 6 - v2.toInt < (n : Int)) → zI m → Sf (fun r => True) (fX12_digitsOf_4 n v0 v1 v2 m) := by
  intro n
  induction n with
  | zero =>
    intro v0 v1 v2 m hp hI
    exfalso
    omega
  | succ n ih =>
    intro v0 v1 v2 m hp hI
    have hnn : ((n + 1 : Nat) : Int) = (n : Int) + 1 := by omega
    have hfu := fuE
    unfold fX12_digitsOf_4
    have kc1 := L6
    refine s_le (fun kh2 => ?_) (fun kh2 => ?_)
    · exact s_ret trivial
    · refine s_bd (zX12_cowsOf v0 v2 m (show 0 ≤ v0.toInt ∧ v0.toInt ≤ 4095 ∧ (-1 : Int) ≤ v2.toInt ∧ v2.toInt ≤ 9 by omega) hI) (fun r2 kr3 => ?_)
      replace kr3 : (0 ≤ r2.toInt) ∧ (r2.toInt ≤ 3) := kr3
      have kc4 := L10
      have kc5 : (v2 + (1 : Int32)).toInt = (v2).toInt + 1 := a_addl L1 (by omega) (by omega)
      exact ih v0 (((10 : Int32) * v1) + r2) (v2 + (1 : Int32)) m (show 0 ≤ v0.toInt ∧ v0.toInt ≤ 4095 ∧ 0 ≤ (v2 + (1 : Int32)).toInt ∧ (v2 + (1 : Int32)).toInt ≤ 6 ∧ 6 - (v2 + (1 : Int32)).toInt < (n : Int) by omega) hI
theorem zX12_digitsOf (x1 : Int32) (m : sm_S) (hp : 0 ≤ x1.toInt ∧ x1.toInt ≤ 4095) (hI : zI m) : Sf (fun r => True) (fX12_digitsOf x1 m) := by
  have hfu := fuE
  unfold fX12_digitsOf
  have kc1 := L0
  exact zX12_digitsOf_4 sm_fu x1 (0 : Int32) (0 : Int32) m (show 0 ≤ x1.toInt ∧ x1.toInt ≤ 4095 ∧ 0 ≤ (0 : Int32).toInt ∧ (0 : Int32).toInt ≤ 6 ∧ 6 - (0 : Int32).toInt < (sm_fu : Int) by omega) hI
theorem zX12_over (x1 : Int32) (x2 : Int32) (m : sm_S) (hp : 0 ≤ x1.toInt ∧ x1.toInt ≤ 4095 ∧ 0 ≤ x2.toInt ∧ x2.toInt ≤ 13) (hI : zI m) : Sf (fun r => (0 ≤ r.toInt) ∧ (r.toInt ≤ 6)) (fX12_over x1 x2 m) := by
  have hfu := fuE
  unfold fX12_over
  have kx1 : 0 ≤ (x2).toInt ∧ (x2).toInt < (14 : Int) := by omega
  refine s_ix kx1 ?_
  have kc2 : (-1 : Int) ≤ (m.1 79 (x2).toNatClampNeg).toInt ∧ (m.1 79 (x2).toNatClampNeg).toInt ≤ 9 := hI.1 79 (x2).toNatClampNeg
  refine s_bd (zX12_cowsOf x1 (m.1 79 (x2).toNatClampNeg) m (show 0 ≤ x1.toInt ∧ x1.toInt ≤ 4095 ∧ (-1 : Int) ≤ (m.1 79 (x2).toNatClampNeg).toInt ∧ (m.1 79 (x2).toNatClampNeg).toInt ≤ 9 by omega) hI) (fun r3 kr3 => ?_)
  replace kr3 : (0 ≤ r3.toInt) ∧ (r3.toInt ≤ 3) := kr3
  refine s_ix kx1 ?_
  have kc4 : (-1 : Int) ≤ (m.1 80 (x2).toNatClampNeg).toInt ∧ (m.1 80 (x2).toNatClampNeg).toInt ≤ 9 := hI.1 80 (x2).toNatClampNeg
  refine s_bd (zX12_cowsOf x1 (m.1 80 (x2).toNatClampNeg) m (show 0 ≤ x1.toInt ∧ x1.toInt ≤ 4095 ∧ (-1 : Int) ≤ (m.1 80 (x2).toNatClampNeg).toInt ∧ (m.1 80 (x2).toNatClampNeg).toInt ≤ 9 by omega) hI) (fun r6 kr5 => ?_)
  replace kr5 : (0 ≤ r6.toInt) ∧ (r6.toInt ≤ 3) := kr5
  have kc6 : (r3 + r6).toInt = (r3).toInt + (r6).toInt := a_add (by omega) (by omega)
  exact s_ret (show (0 ≤ (r3 + r6).toInt) ∧ ((r3 + r6).toInt ≤ 6) by omega)
theorem zX12_wrongOf_4 : ∀ (n : Nat) (v1 : Int32) (v2 : Int32) (v3 : Int32) (m : sm_S), (0 ≤ v1.toInt ∧ v1.toInt ≤ 4095 ∧ 0 ≤ v2.toInt ∧ v2.toInt ≤ 4095 ∧ 0 ≤ v3.toInt ∧ v3.toInt ≤ 12 ∧ 12 - v3.toInt < (n : Int)) → zI m → Sf (fun r => (0 ≤ r.toInt) ∧ (r.toInt ≤ 4095)) (fX12_wrongOf_4 n v1 v2 v3 m) := by
  intro n
  induction n with
  | zero =>
    intro v1 v2 v3 m hp hI
    exfalso
    omega
  | succ n ih =>
    intro v1 v2 v3 m hp hI
    have hnn : ((n + 1 : Nat) : Int) = (n : Int) + 1 := by omega
    have hfu := fuE
    unfold fX12_wrongOf_4
    have kc1 : 0 ≤ (m.1 72 51).toInt ∧ (m.1 72 51).toInt ≤ 12 := hI.1 72 51
    refine s_le (fun kh2 => ?_) (fun kh2 => ?_)
    · exact s_ret (show (0 ≤ v2.toInt) ∧ (v2.toInt ≤ 4095) by omega)
    · have kx3 : 0 ≤ (v3).toInt ∧ (v3).toInt < (12 : Int) := by omega
      refine s_ix kx3 ?_
      have kc4 : 0 ≤ (m.1 102 (v3).toNatClampNeg).toInt ∧ (m.1 102 (v3).toNatClampNeg).toInt ≤ 13 := hI.1 102 (v3).toNatClampNeg
      refine s_bd (zX12_over v1 (m.1 102 (v3).toNatClampNeg) m (show 0 ≤ v1.toInt ∧ v1.toInt ≤ 4095 ∧ 0 ≤ (m.1 102 (v3).toNatClampNeg).toInt ∧ (m.1 102 (v3).toNatClampNeg).toInt ≤ 13 by omega) hI) (fun r3 kr5 => ?_)
      replace kr5 : (0 ≤ r3.toInt) ∧ (r3.toInt ≤ 6) := kr5
      refine s_ix kx3 ?_
      have kc6 : 0 ≤ (m.1 103 (v3).toNatClampNeg).toInt ∧ (m.1 103 (v3).toNatClampNeg).toInt ≤ 6 := hI.1 103 (v3).toNatClampNeg
      refine s_eq (fun kh7 => ?_) (fun kh7 => ?_)
      · have kc8 := L0
        have kc9 : 0 ≤ (v2 ||| (0 : Int32)).toInt ∧ (v2 ||| (0 : Int32)).toInt < 4096 := a_or 12 (by decide) (by decide) (by omega) (by omega) (by omega) (by omega)
        have kc10 : (v3 + (1 : Int32)).toInt = (v3).toInt + 1 := a_addl L1 (by omega) (by omega)
        exact ih v1 (v2 ||| (0 : Int32)) (v3 + (1 : Int32)) m (show 0 ≤ v1.toInt ∧ v1.toInt ≤ 4095 ∧ 0 ≤ (v2 ||| (0 : Int32)).toInt ∧ (v2 ||| (0 : Int32)).toInt ≤ 4095 ∧ 0 ≤ (v3 + (1 : Int32)).toInt ∧ (v3 + (1 : Int32)).toInt ≤ 12 ∧ 12 - (v3 + (1 : Int32)).toInt < (n : Int) by omega) hI
      · have kc11 := L1
        have kc12 := L31
        have kc13 : 0 ≤ (v3 &&& (31 : Int32)).toInt ∧ (v3 &&& (31 : Int32)).toInt ≤ ((31 : Int32)).toInt := a_andr (by omega)
        have kc14 : 0 ≤ (v3 &&& (31 : Int32)).toInt ∧ (v3 &&& (31 : Int32)).toInt ≤ (v3).toInt := a_andl (by omega)
        have kc15 : 1 ≤ ((1 : Int32) <<< (v3 &&& (31 : Int32))).toInt ∧ ((1 : Int32) <<< (v3 &&& (31 : Int32))).toInt ≤ 2048 := a_shl 11 (by decide) (by decide) (by omega) (by omega)
        have kc16 : 0 ≤ (v2 ||| ((1 : Int32) <<< (v3 &&& (31 : Int32)))).toInt ∧ (v2 ||| ((1 : Int32) <<< (v3 &&& (31 : Int32)))).toInt < 4096 := a_or 12 (by decide) (by decide) (by omega) (by omega) (by omega) (by omega)
        have kc17 : (v3 + (1 : Int32)).toInt = (v3).toInt + 1 := a_addl L1 (by omega) (by omega)
        exact ih v1 (v2 ||| ((1 : Int32) <<< (v3 &&& (31 : Int32)))) (v3 + (1 : Int32)) m (show 0 ≤ v1.toInt ∧ v1.toInt ≤ 4095 ∧ 0 ≤ (v2 ||| ((1 : Int32) <<< (v3 &&& (31 : Int32)))).toInt ∧ (v2 ||| ((1 : Int32) <<< (v3 &&& (31 : Int32)))).toInt ≤ 4095 ∧ 0 ≤ (v3 + (1 : Int32)).toInt ∧ (v3 + (1 : Int32)).toInt ≤ 12 ∧ 12 - (v3 + (1 : Int32)).toInt < (n : Int) by omega) hI
theorem zX12_wrongOf (x1 : Int32) (m : sm_S) (hp : 0 ≤ x1.toInt ∧ x1.toInt ≤ 4095) (hI : zI m) : Sf (fun r => (0 ≤ r.toInt) ∧ (r.toInt ≤ 4095)) (fX12_wrongOf x1 m) := by
  have hfu := fuE
  unfold fX12_wrongOf
  have kc1 := L0
  exact zX12_wrongOf_4 sm_fu x1 (0 : Int32) (0 : Int32) m (show 0 ≤ x1.toInt ∧ x1.toInt ≤ 4095 ∧ 0 ≤ (0 : Int32).toInt ∧ (0 : Int32).toInt ≤ 4095 ∧ 0 ≤ (0 : Int32).toInt ∧ (0 : Int32).toInt ≤ 12 ∧ 12 - (0 : Int32).toInt < (sm_fu : Int) by omega) hI
theorem zX12_lands_11 (m0 : sm_S) : ∀ (n : Nat) (v1 : Int32) (v2 : Int32) (v3 : Int32) (m : sm_S), (0 ≤ v2.toInt ∧ v2.toInt ≤ 4095 ∧ 0 ≤ v3.toInt ∧ v3.toInt ≤ 4096 ∧ 4096 - v3.toInt < (n : Int)) → zI m → Fr wX12_lands m0 m → Sf (fun r => (True) ∧ zI r.2 ∧ Fr wX12_lands m0 r.2) (fX12_lands_11 n v1 v2 v3 m) := by
  intro n
  induction n with
  | zero =>
    intro v1 v2 v3 m hp hI hF
    exfalso
    omega
  | succ n ih =>
    intro v1 v2 v3 m hp hI hF
    have hnn : ((n + 1 : Nat) : Int) = (n : Int) + 1 := by omega
    have hfu := fuE
    unfold fX12_lands_11
    have kc1 := L4096
    refine s_le (fun kh2 => ?_) (fun kh2 => ?_)
    · have kc3 := L0
      refine s_le (fun kh4 => ?_) (fun kh4 => ?_)
      · have ki5 : zI (sm_w1 m 72 1 (0 : Int32)) := zI.w hI rfl (show 0 ≤ ((0 : Int32)).toInt ∧ ((0 : Int32)).toInt ≤ 24 by omega)
        have kf6 : Fr wX12_lands m0 (sm_w1 m 72 1 (0 : Int32)) := Fr.w hF rfl
        exact s_ret ⟨trivial, ki5, kf6⟩
      · have ki7 : zI (sm_w1 m 72 1 (0 : Int32)) := zI.w hI rfl (show 0 ≤ ((0 : Int32)).toInt ∧ ((0 : Int32)).toInt ≤ 24 by omega)
        refine s_bd (zX12_digitsOf v2 (sm_w1 m 72 1 (0 : Int32)) (show 0 ≤ v2.toInt ∧ v2.toInt ≤ 4095 by omega) ki7) (fun r2 kr8 => ?_)
        have kc9 : 0 ≤ ((sm_w1 m 72 1 (0 : Int32)).1 72 1).toInt ∧ ((sm_w1 m 72 1 (0 : Int32)).1 72 1).toInt ≤ 24 := ki7.1 72 1
        have kc10 : ((sm_w1 m 72 1 (0 : Int32)).1 72 1).toInt = ((0 : Int32)).toInt := rfl
        refine s_bd (zX12_enters r2 (sm_w1 m 72 1 (0 : Int32)) (show ((sm_w1 m 72 1 (0 : Int32)).1 72 1).toInt ≤ 23 by omega) ki7) (fun m4 kr11 => ?_)
        obtain ⟨kp12, ki13, kf14⟩ := kr11
        replace kp12 : ((m4.1 72 1).toInt = ((sm_w1 m 72 1 (0 : Int32)).1 72 1).toInt + 1) := kp12
        have kc15 : 0 ≤ (m4.1 72 1).toInt ∧ (m4.1 72 1).toInt ≤ 24 := ki13.1 72 1
        have kf16 : Fr wX12_lands m0 (sm_w1 m 72 1 (0 : Int32)) := Fr.w hF rfl
        have kf17 : Fr wX12_lands m0 m4 := Fr.trans kf16 kf14 rfl
        exact s_ret ⟨trivial, ki13, kf17⟩
    · refine s_bd (zX12_wrongOf v3 m (show 0 ≤ v3.toInt ∧ v3.toInt ≤ 4095 by omega) hI) (fun r6 kr18 => ?_)
      replace kr18 : (0 ≤ r6.toInt) ∧ (r6.toInt ≤ 4095) := kr18
      have kc19 := L0
      refine s_eq (fun kh20 => ?_) (fun kh20 => ?_)
      · refine s_eq (fun kh21 => ?_) (fun kh21 => ?_)
        · have kc22 : (v1 + (1 : Int32)).toInt = (v1).toInt + 1 := a_addl L1 (by omega) (by omega)
          have kc23 : (v3 + (1 : Int32)).toInt = (v3).toInt + 1 := a_addl L1 (by omega) (by omega)
          exact ih (v1 + (1 : Int32)) v3 (v3 + (1 : Int32)) m (show 0 ≤ v3.toInt ∧ v3.toInt ≤ 4095 ∧ 0 ≤ (v3 + (1 : Int32)).toInt ∧ (v3 + (1 : Int32)).toInt ≤ 4096 ∧ 4096 - (v3 + (1 : Int32)).toInt < (n : Int) by omega) hI hF
        · have kc24 : (v3 + (1 : Int32)).toInt = (v3).toInt + 1 := a_addl L1 (by omega) (by omega)
          exact ih (v1 + (1 : Int32)) v2 (v3 + (1 : Int32)) m (show 0 ≤ v2.toInt ∧ v2.toInt ≤ 4095 ∧ 0 ≤ (v3 + (1 : Int32)).toInt ∧ (v3 + (1 : Int32)).toInt ≤ 4096 ∧ 4096 - (v3 + (1 : Int32)).toInt < (n : Int) by omega) hI hF
      · have kc25 : (v3 + (1 : Int32)).toInt = (v3).toInt + 1 := a_addl L1 (by omega) (by omega)
        exact ih v1 v2 (v3 + (1 : Int32)) m (show 0 ≤ v2.toInt ∧ v2.toInt ≤ 4095 ∧ 0 ≤ (v3 + (1 : Int32)).toInt ∧ (v3 + (1 : Int32)).toInt ≤ 4096 ∧ 4096 - (v3 + (1 : Int32)).toInt < (n : Int) by omega) hI hF
theorem zX12_lands (m : sm_S) (hI : zI m) : Sf (fun r => (True) ∧ zI r.2 ∧ Fr wX12_lands m r.2) (fX12_lands m) := by
  have hfu := fuE
  unfold fX12_lands
  have kc1 := L0
  have ki2 : zI (sm_w1 m 72 0 (0 : Int32)) := zI.w hI rfl (show 0 ≤ ((0 : Int32)).toInt ∧ ((0 : Int32)).toInt ≤ 1 by omega)
  have kf3 : Fr wX12_lands m (sm_w1 m 72 0 (0 : Int32)) := Fr.w Fr.refl rfl
  exact zX12_lands_11 m sm_fu (0 : Int32) (0 : Int32) (0 : Int32) (sm_w1 m 72 0 (0 : Int32)) (show 0 ≤ (0 : Int32).toInt ∧ (0 : Int32).toInt ≤ 4095 ∧ 0 ≤ (0 : Int32).toInt ∧ (0 : Int32).toInt ≤ 4096 ∧ 4096 - (0 : Int32).toInt < (sm_fu : Int) by omega) ki2 kf3
theorem zX12_sure_103 (m0 : sm_S) : ∀ (n : Nat) (v1 : Int32) (v2 : Int32) (v3 : Int32) (v4 : Int32) (m : sm_S), (0 ≤ v1.toInt ∧ v1.toInt ≤ 4095 ∧ 0 ≤ v2.toInt ∧ v2.toInt ≤ 63 ∧ 0 ≤ v3.toInt ∧ v3.toInt ≤ 63 ∧ 0 ≤ v4.toInt ∧ v4.toInt ≤ 6 ∧ 6 - v4.toInt < (n : Int) ∧ (m.1 72 1).toInt ≤ v4.toInt) → zI m → Fr wX12_sure m0 m → Sf (fun r => ((0 ≤ r.1.toInt) ∧ (r.1.toInt ≤ 63)) ∧ zI r.2 ∧ Fr wX12_sure m0 r.2) (fX12_sure_103 n v1 v2 v3 v4 m) := by
  intro n
  induction n with
  | zero =>
    intro v1 v2 v3 v4 m hp hI hF
    have kc1 : 0 ≤ (m.1 72 1).toInt ∧ (m.1 72 1).toInt ≤ 24 := hI.1 72 1
    exfalso
    omega
  | succ n ih =>
    intro v1 v2 v3 v4 m hp hI hF
    have hnn : ((n + 1 : Nat) : Int) = (n : Int) + 1 := by omega
    have hfu := fuE
    have kc1 : 0 ≤ (m.1 72 1).toInt ∧ (m.1 72 1).toInt ≤ 24 := hI.1 72 1
    unfold fX12_sure_103
    have kc2 := L6
    refine s_le (fun kh3 => ?_) (fun kh3 => ?_)
    · exact s_ret ⟨(show (0 ≤ v3.toInt) ∧ (v3.toInt ≤ 63) by omega), hI, hF⟩
    · refine s_bd (zX12_has v2 v4 m (show 0 ≤ v2.toInt ∧ v2.toInt ≤ 16383 ∧ 0 ≤ v4.toInt ∧ v4.toInt ≤ 13 by omega) hI) (fun r2 kr4 => ?_)
      replace kr4 : (0 ≤ r2.toInt) ∧ (r2.toInt ≤ 1) := kr4
      have kc5 := L0
      refine s_eq (fun kh6 => ?_) (fun kh6 => ?_)
      · refine s_bd (zX12_cowsOf v1 v4 m (show 0 ≤ v1.toInt ∧ v1.toInt ≤ 4095 ∧ (-1 : Int) ≤ v4.toInt ∧ v4.toInt ≤ 9 by omega) hI) (fun r4 kr7 => ?_)
        replace kr7 : (0 ≤ r4.toInt) ∧ (r4.toInt ≤ 3) := kr7
        refine s_bd (zX12_enters r4 m (show (m.1 72 1).toInt ≤ 23 by omega) hI) (fun m6 kr8 => ?_)
        obtain ⟨kp9, ki10, kf11⟩ := kr8
        replace kp9 : ((m6.1 72 1).toInt = (m.1 72 1).toInt + 1) := kp9
        have kc12 : 0 ≤ (m6.1 72 1).toInt ∧ (m6.1 72 1).toInt ≤ 24 := ki10.1 72 1
        have kc13 := L1
        have kc14 := L31
        have kc15 : 0 ≤ (v4 &&& (31 : Int32)).toInt ∧ (v4 &&& (31 : Int32)).toInt ≤ ((31 : Int32)).toInt := a_andr (by omega)
        have kc16 : 0 ≤ (v4 &&& (31 : Int32)).toInt ∧ (v4 &&& (31 : Int32)).toInt ≤ (v4).toInt := a_andl (by omega)
        have kc17 : 1 ≤ ((1 : Int32) <<< (v4 &&& (31 : Int32))).toInt ∧ ((1 : Int32) <<< (v4 &&& (31 : Int32))).toInt ≤ 32 := a_shl 5 (by decide) (by decide) (by omega) (by omega)
        have kc18 : 0 ≤ (v3 ||| ((1 : Int32) <<< (v4 &&& (31 : Int32)))).toInt ∧ (v3 ||| ((1 : Int32) <<< (v4 &&& (31 : Int32)))).toInt < 64 := a_or 6 (by decide) (by decide) (by omega) (by omega) (by omega) (by omega)
        have kc19 : (v4 + (1 : Int32)).toInt = (v4).toInt + 1 := a_addl L1 (by omega) (by omega)
        have kf20 : Fr wX12_sure m0 m6 := Fr.trans hF kf11 rfl
        exact ih v1 v2 (v3 ||| ((1 : Int32) <<< (v4 &&& (31 : Int32)))) (v4 + (1 : Int32)) m6 (show 0 ≤ v1.toInt ∧ v1.toInt ≤ 4095 ∧ 0 ≤ v2.toInt ∧ v2.toInt ≤ 63 ∧ 0 ≤ (v3 ||| ((1 : Int32) <<< (v4 &&& (31 : Int32)))).toInt ∧ (v3 ||| ((1 : Int32) <<< (v4 &&& (31 : Int32)))).toInt ≤ 63 ∧ 0 ≤ (v4 + (1 : Int32)).toInt ∧ (v4 + (1 : Int32)).toInt ≤ 6 ∧ 6 - (v4 + (1 : Int32)).toInt < (n : Int) ∧ (m6.1 72 1).toInt ≤ (v4 + (1 : Int32)).toInt by omega) ki10 kf20
      · have kc21 : (v4 + (1 : Int32)).toInt = (v4).toInt + 1 := a_addl L1 (by omega) (by omega)
        exact ih v1 v2 v3 (v4 + (1 : Int32)) m (show 0 ≤ v1.toInt ∧ v1.toInt ≤ 4095 ∧ 0 ≤ v2.toInt ∧ v2.toInt ≤ 63 ∧ 0 ≤ v3.toInt ∧ v3.toInt ≤ 63 ∧ 0 ≤ (v4 + (1 : Int32)).toInt ∧ (v4 + (1 : Int32)).toInt ≤ 6 ∧ 6 - (v4 + (1 : Int32)).toInt < (n : Int) ∧ (m.1 72 1).toInt ≤ (v4 + (1 : Int32)).toInt by omega) hI hF
theorem zX12_sure_42 (m0 : sm_S) (k11 : Int32 → Int32 → Int32 → sm_S → Option (Int32 × sm_S)) (Nk11 : Nat) (hk11 : ∀ (v1 : Int32) (v2 : Int32) (v3 : Int32) (m : sm_S), ((-1 : Int) ≤ v1.toInt ∧ v1.toInt ≤ 4095 ∧ 0 ≤ v2.toInt ∧ v2.toInt ≤ 63 ∧ 0 ≤ v3.toInt ∧ v3.toInt ≤ 4096 ∧ 4096 - v3.toInt < (Nk11 : Int)) → zI m → Fr wX12_sure m0 m → Sf (fun r => ((0 ≤ r.1.toInt) ∧ (r.1.toInt ≤ 63)) ∧ zI r.2 ∧ Fr wX12_sure m0 r.2) (k11 v1 v2 v3 m)) : ∀ (n : Nat) (v1 : Int32) (v2 : Int32) (v3 : Int32) (v4 : Int32) (m : sm_S), (0 ≤ v1.toInt ∧ v1.toInt ≤ 4095 ∧ 0 ≤ v2.toInt ∧ v2.toInt ≤ 63 ∧ 0 ≤ v3.toInt ∧ v3.toInt ≤ 4095 ∧ 0 ≤ v4.toInt ∧ v4.toInt ≤ 6 ∧ 6 - v4.toInt < (n : Int) ∧ 4096 - v3.toInt ≤ (Nk11 : Int)) → zI m → Fr wX12_sure m0 m → Sf (fun r => ((0 ≤ r.1.toInt) ∧ (r.1.toInt ≤ 63)) ∧ zI r.2 ∧ Fr wX12_sure m0 r.2) (fX12_sure_42 k11 n v1 v2 v3 v4 m) := by
  intro n
  induction n with
  | zero =>
    intro v1 v2 v3 v4 m hp hI hF
    exfalso
    omega
  | succ n ih =>
    intro v1 v2 v3 v4 m hp hI hF
    have hnn : ((n + 1 : Nat) : Int) = (n : Int) + 1 := by omega
    have hfu := fuE
    unfold fX12_sure_42
    have kc1 := L6
    refine s_le (fun kh2 => ?_) (fun kh2 => ?_)
    · have kc3 : (v3 + (1 : Int32)).toInt = (v3).toInt + 1 := a_addl L1 (by omega) (by omega)
      exact hk11 v1 v2 (v3 + (1 : Int32)) m (show (-1 : Int) ≤ v1.toInt ∧ v1.toInt ≤ 4095 ∧ 0 ≤ v2.toInt ∧ v2.toInt ≤ 63 ∧ 0 ≤ (v3 + (1 : Int32)).toInt ∧ (v3 + (1 : Int32)).toInt ≤ 4096 ∧ 4096 - (v3 + (1 : Int32)).toInt < (Nk11 : Int) by omega) hI hF
    · refine s_bd (zX12_cowsOf v3 v4 m (show 0 ≤ v3.toInt ∧ v3.toInt ≤ 4095 ∧ (-1 : Int) ≤ v4.toInt ∧ v4.toInt ≤ 9 by omega) hI) (fun r10 kr4 => ?_)
      replace kr4 : (0 ≤ r10.toInt) ∧ (r10.toInt ≤ 3) := kr4
      refine s_bd (zX12_cowsOf v1 v4 m (show 0 ≤ v1.toInt ∧ v1.toInt ≤ 4095 ∧ (-1 : Int) ≤ v4.toInt ∧ v4.toInt ≤ 9 by omega) hI) (fun r12 kr5 => ?_)
      replace kr5 : (0 ≤ r12.toInt) ∧ (r12.toInt ≤ 3) := kr5
      refine s_eq (fun kh6 => ?_) (fun kh6 => ?_)
      · have kc7 := L0
        have kc8 : 0 ≤ (v2 ||| (0 : Int32)).toInt ∧ (v2 ||| (0 : Int32)).toInt < 64 := a_or 6 (by decide) (by decide) (by omega) (by omega) (by omega) (by omega)
        have kc9 : (v4 + (1 : Int32)).toInt = (v4).toInt + 1 := a_addl L1 (by omega) (by omega)
        exact ih v1 (v2 ||| (0 : Int32)) v3 (v4 + (1 : Int32)) m (show 0 ≤ v1.toInt ∧ v1.toInt ≤ 4095 ∧ 0 ≤ (v2 ||| (0 : Int32)).toInt ∧ (v2 ||| (0 : Int32)).toInt ≤ 63 ∧ 0 ≤ v3.toInt ∧ v3.toInt ≤ 4095 ∧ 0 ≤ (v4 + (1 : Int32)).toInt ∧ (v4 + (1 : Int32)).toInt ≤ 6 ∧ 6 - (v4 + (1 : Int32)).toInt < (n : Int) ∧ 4096 - v3.toInt ≤ (Nk11 : Int) by omega) hI hF
      · have kc10 := L1
        have kc11 := L31
        have kc12 : 0 ≤ (v4 &&& (31 : Int32)).toInt ∧ (v4 &&& (31 : Int32)).toInt ≤ ((31 : Int32)).toInt := a_andr (by omega)
        have kc13 : 0 ≤ (v4 &&& (31 : Int32)).toInt ∧ (v4 &&& (31 : Int32)).toInt ≤ (v4).toInt := a_andl (by omega)
        have kc14 : 1 ≤ ((1 : Int32) <<< (v4 &&& (31 : Int32))).toInt ∧ ((1 : Int32) <<< (v4 &&& (31 : Int32))).toInt ≤ 32 := a_shl 5 (by decide) (by decide) (by omega) (by omega)
        have kc15 : 0 ≤ (v2 ||| ((1 : Int32) <<< (v4 &&& (31 : Int32)))).toInt ∧ (v2 ||| ((1 : Int32) <<< (v4 &&& (31 : Int32)))).toInt < 64 := a_or 6 (by decide) (by decide) (by omega) (by omega) (by omega) (by omega)
        have kc16 : (v4 + (1 : Int32)).toInt = (v4).toInt + 1 := a_addl L1 (by omega) (by omega)
        exact ih v1 (v2 ||| ((1 : Int32) <<< (v4 &&& (31 : Int32)))) v3 (v4 + (1 : Int32)) m (show 0 ≤ v1.toInt ∧ v1.toInt ≤ 4095 ∧ 0 ≤ (v2 ||| ((1 : Int32) <<< (v4 &&& (31 : Int32)))).toInt ∧ (v2 ||| ((1 : Int32) <<< (v4 &&& (31 : Int32)))).toInt ≤ 63 ∧ 0 ≤ v3.toInt ∧ v3.toInt ≤ 4095 ∧ 0 ≤ (v4 + (1 : Int32)).toInt ∧ (v4 + (1 : Int32)).toInt ≤ 6 ∧ 6 - (v4 + (1 : Int32)).toInt < (n : Int) ∧ 4096 - v3.toInt ≤ (Nk11 : Int) by omega) hI hF
theorem zX12_sure_11 (m0 : sm_S) : ∀ (n : Nat) (v1 : Int32) (v2 : Int32) (v3 : Int32) (m : sm_S), ((-1 : Int) ≤ v1.toInt ∧ v1.toInt ≤ 4095 ∧ 0 ≤ v2.toInt ∧ v2.toInt ≤ 63 ∧ 0 ≤ v3.toInt ∧ v3.toInt ≤ 4096 ∧ 4096 - v3.toInt < (n : Int)) → zI m → Fr wX12_sure m0 m → Sf (fun r => ((0 ≤ r.1.toInt) ∧ (r.1.toInt ≤ 63)) ∧ zI r.2 ∧ Fr wX12_sure m0 r.2) (fX12_sure_11 n v1 v2 v3 m) := by
  intro n
  induction n with
  | zero =>
    intro v1 v2 v3 m hp hI hF
    exfalso
    omega
  | succ n ih =>
    intro v1 v2 v3 m hp hI hF
    have hnn : ((n + 1 : Nat) : Int) = (n : Int) + 1 := by omega
    have hfu := fuE
    unfold fX12_sure_11
    have kc1 := L4096
    refine s_le (fun kh2 => ?_) (fun kh2 => ?_)
    · have kc3 := L0
      refine s_le (fun kh4 => ?_) (fun kh4 => ?_)
      · have ki5 : zI (sm_w1 m 72 1 (0 : Int32)) := zI.w hI rfl (show 0 ≤ ((0 : Int32)).toInt ∧ ((0 : Int32)).toInt ≤ 24 by omega)
        have kc6 : 0 ≤ ((sm_w1 m 72 1 (0 : Int32)).1 72 1).toInt ∧ ((sm_w1 m 72 1 (0 : Int32)).1 72 1).toInt ≤ 24 := ki5.1 72 1
        have kc7 : ((sm_w1 m 72 1 (0 : Int32)).1 72 1).toInt = ((0 : Int32)).toInt := rfl
        have kf8 : Fr wX12_sure m0 (sm_w1 m 72 1 (0 : Int32)) := Fr.w hF rfl
        exact zX12_sure_103 m0 sm_fu v1 v2 (0 : Int32) (0 : Int32) (sm_w1 m 72 1 (0 : Int32)) (show 0 ≤ v1.toInt ∧ v1.toInt ≤ 4095 ∧ 0 ≤ v2.toInt ∧ v2.toInt ≤ 63 ∧ 0 ≤ (0 : Int32).toInt ∧ (0 : Int32).toInt ≤ 63 ∧ 0 ≤ (0 : Int32).toInt ∧ (0 : Int32).toInt ≤ 6 ∧ 6 - (0 : Int32).toInt < (sm_fu : Int) ∧ ((sm_w1 m 72 1 (0 : Int32)).1 72 1).toInt ≤ (0 : Int32).toInt by omega) ki5 kf8
      · have ki9 : zI (sm_w1 m 72 1 (0 : Int32)) := zI.w hI rfl (show 0 ≤ ((0 : Int32)).toInt ∧ ((0 : Int32)).toInt ≤ 24 by omega)
        have kf10 : Fr wX12_sure m0 (sm_w1 m 72 1 (0 : Int32)) := Fr.w hF rfl
        exact s_ret ⟨(show (0 ≤ (0 : Int32).toInt) ∧ ((0 : Int32).toInt ≤ 63) by omega), ki9, kf10⟩
    · refine s_bd (zX12_wrongOf v3 m (show 0 ≤ v3.toInt ∧ v3.toInt ≤ 4095 by omega) hI) (fun r8 kr11 => ?_)
      replace kr11 : (0 ≤ r8.toInt) ∧ (r8.toInt ≤ 4095) := kr11
      have kc12 := L0
      refine s_eq (fun kh13 => ?_) (fun kh13 => ?_)
      · refine s_le (fun kh14 => ?_) (fun kh14 => ?_)
        · exact zX12_sure_42 m0 (fX12_sure_11 n) n ih sm_fu v1 v2 v3 (0 : Int32) m (show 0 ≤ v1.toInt ∧ v1.toInt ≤ 4095 ∧ 0 ≤ v2.toInt ∧ v2.toInt ≤ 63 ∧ 0 ≤ v3.toInt ∧ v3.toInt ≤ 4095 ∧ 0 ≤ (0 : Int32).toInt ∧ (0 : Int32).toInt ≤ 6 ∧ 6 - (0 : Int32).toInt < (sm_fu : Int) ∧ 4096 - v3.toInt ≤ (n : Int) by omega) hI hF
        · exact zX12_sure_42 m0 (fX12_sure_11 n) n ih sm_fu v3 v2 v3 (0 : Int32) m (show 0 ≤ v3.toInt ∧ v3.toInt ≤ 4095 ∧ 0 ≤ v2.toInt ∧ v2.toInt ≤ 63 ∧ 0 ≤ v3.toInt ∧ v3.toInt ≤ 4095 ∧ 0 ≤ (0 : Int32).toInt ∧ (0 : Int32).toInt ≤ 6 ∧ 6 - (0 : Int32).toInt < (sm_fu : Int) ∧ 4096 - v3.toInt ≤ (n : Int) by omega) hI hF
      · have kc15 : (v3 + (1 : Int32)).toInt = (v3).toInt + 1 := a_addl L1 (by omega) (by omega)
        exact ih v1 v2 (v3 + (1 : Int32)) m (show (-1 : Int) ≤ v1.toInt ∧ v1.toInt ≤ 4095 ∧ 0 ≤ v2.toInt ∧ v2.toInt ≤ 63 ∧ 0 ≤ (v3 + (1 : Int32)).toInt ∧ (v3 + (1 : Int32)).toInt ≤ 4096 ∧ 4096 - (v3 + (1 : Int32)).toInt < (n : Int) by omega) hI hF
theorem zX12_sure (m : sm_S) (hI : zI m) : Sf (fun r => ((0 ≤ r.1.toInt) ∧ (r.1.toInt ≤ 63)) ∧ zI r.2 ∧ Fr wX12_sure m r.2) (fX12_sure m) := by
  have hfu := fuE
  unfold fX12_sure
  have kc1 := Ln1
  have kc2 := L0
  have ki3 : zI (sm_w1 m 72 0 (0 : Int32)) := zI.w hI rfl (show 0 ≤ ((0 : Int32)).toInt ∧ ((0 : Int32)).toInt ≤ 1 by omega)
  have kf4 : Fr wX12_sure m (sm_w1 m 72 0 (0 : Int32)) := Fr.w Fr.refl rfl
  exact zX12_sure_11 m sm_fu (-1 : Int32) (0 : Int32) (0 : Int32) (sm_w1 m 72 0 (0 : Int32)) (show (-1 : Int) ≤ (-1 : Int32).toInt ∧ (-1 : Int32).toInt ≤ 4095 ∧ 0 ≤ (0 : Int32).toInt ∧ (0 : Int32).toInt ≤ 63 ∧ 0 ≤ (0 : Int32).toInt ∧ (0 : Int32).toInt ≤ 4096 ∧ 4096 - (0 : Int32).toInt < (sm_fu : Int) by omega) ki3 kf4
theorem zX12_next_99 (m0 : sm_S) (k12 : Int32 → Int32 → Int32 → sm_S → Option (Int32 × sm_S)) (Nk12 : Nat) (hk12 : ∀ (v1 : Int32) (v2 : Int32) (v3 : Int32) (m : sm_S), ((-2 : Int) ≤ v1.toInt ∧ v1.toInt ≤ 13 ∧ 0 ≤ v2.toInt ∧ 0 ≤ v3.toInt ∧ v3.toInt ≤ 14 ∧ 14 - v3.toInt < (Nk12 : Int)) → zI m → Fr wX12_next m0 m → Sf (fun r => (((-2 : Int) ≤ r.1.toInt) ∧ (r.1.toInt ≤ 13)) ∧ zI r.2 ∧ Fr wX12_next m0 r.2) (k12 v1 v2 v3 m)) : ∀ (n : Nat) (v1 : Int32) (v2 : Int32) (v3 : Int32) (v4 : Int32) (v5 : Int32) (m : sm_S), ((-2 : Int) ≤ v1.toInt ∧ v1.toInt ≤ 13 ∧ 0 ≤ v2.toInt ∧ 0 ≤ v3.toInt ∧ v3.toInt ≤ 13 ∧ 0 ≤ v4.toInt ∧ 0 ≤ v5.toInt ∧ v5.toInt ≤ 7 ∧ v3.toInt < (m.1 72 6).toInt ∧ 7 - v5.toInt < (n : Int) ∧ 14 - v3.toInt ≤ (Nk12 : Int)) → zI m → Fr wX12_next m0 m → Sf (fun r => (((-2 : Int) ≤ r.1.toInt) ∧ (r.1.toInt ≤ 13)) ∧ zI r.2 ∧ Fr wX12_next m0 r.2) (fX12_next_99 k12 n v1 v2 v3 v4 v5 m) := by
  intro n
  induction n with
  | zero =>
    intro v1 v2 v3 v4 v5 m hp hI hF
    have kc1 : 0 ≤ (m.1 72 6).toInt ∧ (m.1 72 6).toInt ≤ 14 := hI.1 72 6
    have kc2 : 0 ≤ (m.1 72 25).toInt ∧ (m.1 72 25).toInt ≤ 14 := hI.1 72 25
    have kc3 := zI.le hI
    have krgv2 := rg v2
    have krgv4 := rg v4
    exfalso
    omega
  | succ n ih =>
    intro v1 v2 v3 v4 v5 m hp hI hF
    have hnn : ((n + 1 : Nat) : Int) = (n : Int) + 1 := by omega
    have hfu := fuE
    have kc1 : 0 ≤ (m.1 72 6).toInt ∧ (m.1 72 6).toInt ≤ 14 := hI.1 72 6
    have kc2 : 0 ≤ (m.1 72 25).toInt ∧ (m.1 72 25).toInt ≤ 14 := hI.1 72 25
    have kc3 := zI.le hI
    have krgv2 := rg v2
    have krgv4 := rg v4
    unfold fX12_next_99
    have kc4 := L7
    refine s_le (fun kh5 => ?_) (fun kh5 => ?_)
    · have kc6 := L0
      refine s_le (fun kh7 => ?_) (fun kh7 => ?_)
      · have kc8 : (v3 + (1 : Int32)).toInt = (v3).toInt + 1 := a_addl L1 (by omega) (by omega)
        exact hk12 v1 v2 (v3 + (1 : Int32)) m (show (-2 : Int) ≤ v1.toInt ∧ v1.toInt ≤ 13 ∧ 0 ≤ v2.toInt ∧ 0 ≤ (v3 + (1 : Int32)).toInt ∧ (v3 + (1 : Int32)).toInt ≤ 14 ∧ 14 - (v3 + (1 : Int32)).toInt < (Nk12 : Int) by omega) hI hF
      · refine s_lt (fun kh9 => ?_) (fun kh9 => ?_)
        · have kc10 : (v3 + (1 : Int32)).toInt = (v3).toInt + 1 := a_addl L1 (by omega) (by omega)
          exact hk12 v3 v4 (v3 + (1 : Int32)) m (show (-2 : Int) ≤ v3.toInt ∧ v3.toInt ≤ 13 ∧ 0 ≤ v4.toInt ∧ 0 ≤ (v3 + (1 : Int32)).toInt ∧ (v3 + (1 : Int32)).toInt ≤ 14 ∧ 14 - (v3 + (1 : Int32)).toInt < (Nk12 : Int) by omega) hI hF
        · refine s_le (fun kh11 => ?_) (fun kh11 => ?_)
          · have kc12 : (v3 + (1 : Int32)).toInt = (v3).toInt + 1 := a_addl L1 (by omega) (by omega)
            exact hk12 v1 v2 (v3 + (1 : Int32)) m (show (-2 : Int) ≤ v1.toInt ∧ v1.toInt ≤ 13 ∧ 0 ≤ v2.toInt ∧ 0 ≤ (v3 + (1 : Int32)).toInt ∧ (v3 + (1 : Int32)).toInt ≤ 14 ∧ 14 - (v3 + (1 : Int32)).toInt < (Nk12 : Int) by omega) hI hF
          · have kc13 : (v3 + (1 : Int32)).toInt = (v3).toInt + 1 := a_addl L1 (by omega) (by omega)
            exact hk12 v3 v4 (v3 + (1 : Int32)) m (show (-2 : Int) ≤ v3.toInt ∧ v3.toInt ≤ 13 ∧ 0 ≤ v4.toInt ∧ 0 ≤ (v3 + (1 : Int32)).toInt ∧ (v3 + (1 : Int32)).toInt ≤ 14 ∧ 14 - (v3 + (1 : Int32)).toInt < (Nk12 : Int) by omega) hI hF
    · have kx14 : 0 ≤ (v5).toInt ∧ (v5).toInt < (7 : Int) := by omega
      refine s_ix kx14 ?_
      have kc15 : ((v4).toInt < ((m.1 104 (v5).toNatClampNeg)).toInt ∧ (if v4 < (m.1 104 (v5).toNatClampNeg) then (m.1 104 (v5).toNatClampNeg) else v4).toInt = ((m.1 104 (v5).toNatClampNeg)).toInt) ∨ (((m.1 104 (v5).toNatClampNeg)).toInt ≤ (v4).toInt ∧ (if v4 < (m.1 104 (v5).toNatClampNeg) then (m.1 104 (v5).toNatClampNeg) else v4).toInt = (v4).toInt) := a_ilt
      have kc16 : (v5 + (1 : Int32)).toInt = (v5).toInt + 1 := a_addl L1 (by omega) (by omega)
      exact ih v1 v2 v3 (if v4 < (m.1 104 (v5).toNatClampNeg) then (m.1 104 (v5).toNatClampNeg) else v4) (v5 + (1 : Int32)) m (show (-2 : Int) ≤ v1.toInt ∧ v1.toInt ≤ 13 ∧ 0 ≤ v2.toInt ∧ 0 ≤ v3.toInt ∧ v3.toInt ≤ 13 ∧ 0 ≤ (if v4 < (m.1 104 (v5).toNatClampNeg) then (m.1 104 (v5).toNatClampNeg) else v4).toInt ∧ 0 ≤ (v5 + (1 : Int32)).toInt ∧ (v5 + (1 : Int32)).toInt ≤ 7 ∧ v3.toInt < (m.1 72 6).toInt ∧ 7 - (v5 + (1 : Int32)).toInt < (n : Int) ∧ 14 - v3.toInt ≤ (Nk12 : Int) by omega) hI hF
theorem zX12_next_47 (m0 : sm_S) (k12 : Int32 → Int32 → Int32 → sm_S → Option (Int32 × sm_S)) (Nk12 : Nat) (hk12 : ∀ (v1 : Int32) (v2 : Int32) (v3 : Int32) (m : sm_S), ((-2 : Int) ≤ v1.toInt ∧ v1.toInt ≤ 13 ∧ 0 ≤ v2.toInt ∧ 0 ≤ v3.toInt ∧ v3.toInt ≤ 14 ∧ 14 - v3.toInt < (Nk12 : Int)) → zI m → Fr wX12_next m0 m → Sf (fun r => (((-2 : Int) ≤ r.1.toInt) ∧ (r.1.toInt ≤ 13)) ∧ zI r.2 ∧ Fr wX12_next m0 r.2) (k12 v1 v2 v3 m)) : ∀ (n : Nat) (v1 : Int32) (v2 : Int32) (v3 : Int32) (v4 : Int32) (m : sm_S), ((-2 : Int) ≤ v1.toInt ∧ v1.toInt ≤ 13 ∧ 0 ≤ v2.toInt ∧ 0 ≤ v3.toInt ∧ v3.toInt ≤ 13 ∧ 0 ≤ v4.toInt ∧ v4.toInt ≤ 4096 ∧ v3.toInt < (m.1 72 6).toInt ∧ 4096 - v4.toInt < (n : Int) ∧ 14 - v3.toInt ≤ (Nk12 : Int)) → zI m → Fr wX12_next m0 m → Sf (fun r => (((-2 : Int) ≤ r.1.toInt) ∧ (r.1.toInt ≤ 13)) ∧ zI r.2 ∧ Fr wX12_next m0 r.2) (fX12_next_47 k12 n v1 v2 v3 v4 m) := by
  intro n
  induction n with
  | zero =>
    intro v1 v2 v3 v4 m hp hI hF
    have kc1 : 0 ≤ (m.1 72 6).toInt ∧ (m.1 72 6).toInt ≤ 14 := hI.1 72 6
    have kc2 : 0 ≤ (m.1 72 25).toInt ∧ (m.1 72 25).toInt ≤ 14 := hI.1 72 25
    have kc3 := zI.le hI
    have krgv2 := rg v2
    exfalso
    omega
  | succ n ih =>
    intro v1 v2 v3 v4 m hp hI hF
    have hnn : ((n + 1 : Nat) : Int) = (n : Int) + 1 := by omega
    have hfu := fuE
    have kc1 : 0 ≤ (m.1 72 6).toInt ∧ (m.1 72 6).toInt ≤ 14 := hI.1 72 6
    have kc2 : 0 ≤ (m.1 72 25).toInt ∧ (m.1 72 25).toInt ≤ 14 := hI.1 72 25
    have kc3 := zI.le hI
    have krgv2 := rg v2
    unfold fX12_next_47
    have kc4 := L4096
    refine s_le (fun kh5 => ?_) (fun kh5 => ?_)
    · have kc6 := L0
      exact zX12_next_99 m0 k12 Nk12 hk12 sm_fu v1 v2 v3 (0 : Int32) (0 : Int32) m (show (-2 : Int) ≤ v1.toInt ∧ v1.toInt ≤ 13 ∧ 0 ≤ v2.toInt ∧ 0 ≤ v3.toInt ∧ v3.toInt ≤ 13 ∧ 0 ≤ (0 : Int32).toInt ∧ 0 ≤ (0 : Int32).toInt ∧ (0 : Int32).toInt ≤ 7 ∧ v3.toInt < (m.1 72 6).toInt ∧ 7 - (0 : Int32).toInt < (sm_fu : Int) ∧ 14 - v3.toInt ≤ (Nk12 : Int) by omega) hI hF
    · refine s_bd (zX12_over v4 v3 m (show 0 ≤ v4.toInt ∧ v4.toInt ≤ 4095 ∧ 0 ≤ v3.toInt ∧ v3.toInt ≤ 13 by omega) hI) (fun r5 kr7 => ?_)
      replace kr7 : (0 ≤ r5.toInt) ∧ (r5.toInt ≤ 6) := kr7
      have kx8 : 0 ≤ (r5).toInt ∧ (r5).toInt < (7 : Int) := by omega
      refine s_ix kx8 ?_
      refine s_bd (zX12_wrongOf v4 m (show 0 ≤ v4.toInt ∧ v4.toInt ≤ 4095 by omega) hI) (fun r8 kr9 => ?_)
      replace kr9 : (0 ≤ r8.toInt) ∧ (r8.toInt ≤ 4095) := kr9
      have kc10 := L0
      refine s_eq (fun kh11 => ?_) (fun kh11 => ?_)
      · have kc12 := L1
        refine s_bd (zX12_flag (1 : Int32) m (show 0 ≤ (1 : Int32).toInt ∧ (1 : Int32).toInt ≤ 1 by omega) hI) (fun r13 kr13 => ?_)
        replace kr13 : (0 ≤ r13.toInt) ∧ (r13.toInt ≤ 1) ∧ (r13.toInt = (1 : Int32).toInt) := kr13
        refine s_ix kx8 ?_
        have kc14 : (v4 + (1 : Int32)).toInt = (v4).toInt + 1 := a_addl L1 (by omega) (by omega)
        have ki15 : zI (sm_w1 m 104 (r5).toNatClampNeg ((m.1 104 (r5).toNatClampNeg) + r13)) := zI.w hI rfl (rg _)
        have kc16 : 0 ≤ ((sm_w1 m 104 (r5).toNatClampNeg ((m.1 104 (r5).toNatClampNeg) + r13)).1 72 6).toInt ∧ ((sm_w1 m 104 (r5).toNatClampNeg ((m.1 104 (r5).toNatClampNeg) + r13)).1 72 6).toInt ≤ 14 := ki15.1 72 6
        have kc17 : 0 ≤ ((sm_w1 m 104 (r5).toNatClampNeg ((m.1 104 (r5).toNatClampNeg) + r13)).1 72 25).toInt ∧ ((sm_w1 m 104 (r5).toNatClampNeg ((m.1 104 (r5).toNatClampNeg) + r13)).1 72 25).toInt ≤ 14 := ki15.1 72 25
        have kc18 := zI.le ki15
        have kc19 : ((sm_w1 m 104 (r5).toNatClampNeg ((m.1 104 (r5).toNatClampNeg) + r13)).1 72 25).toInt = (m.1 72 25).toInt := congrArg Int32.toInt (r_cell (by decide))
        have kc20 : ((sm_w1 m 104 (r5).toNatClampNeg ((m.1 104 (r5).toNatClampNeg) + r13)).1 72 6).toInt = (m.1 72 6).toInt := congrArg Int32.toInt (r_cell (by decide))
        have kf21 : Fr wX12_next m0 (sm_w1 m 104 (r5).toNatClampNeg ((m.1 104 (r5).toNatClampNeg) + r13)) := Fr.w hF rfl
        exact ih v1 v2 v3 (v4 + (1 : Int32)) (sm_w1 m 104 (r5).toNatClampNeg ((m.1 104 (r5).toNatClampNeg) + r13)) (show (-2 : Int) ≤ v1.toInt ∧ v1.toInt ≤ 13 ∧ 0 ≤ v2.toInt ∧ 0 ≤ v3.toInt ∧ v3.toInt ≤ 13 ∧ 0 ≤ (v4 + (1 : Int32)).toInt ∧ (v4 + (1 : Int32)).toInt ≤ 4096 ∧ v3.toInt < ((sm_w1 m 104 (r5).toNatClampNeg ((m.1 104 (r5).toNatClampNeg) + r13)).1 72 6).toInt ∧ 4096 - (v4 + (1 : Int32)).toInt < (n : Int) ∧ 14 - v3.toInt ≤ (Nk12 : Int) by omega) ki15 kf21
      · refine s_bd (zX12_flag (0 : Int32) m (show 0 ≤ (0 : Int32).toInt ∧ (0 : Int32).toInt ≤ 1 by omega) hI) (fun r10 kr22 => ?_)
        replace kr22 : (0 ≤ r10.toInt) ∧ (r10.toInt ≤ 1) ∧ (r10.toInt = (0 : Int32).toInt) := kr22
        refine s_ix kx8 ?_
        have kc23 : (v4 + (1 : Int32)).toInt = (v4).toInt + 1 := a_addl L1 (by omega) (by omega)
        have kc24 := rg (m.1 104 (r5).toNatClampNeg)
        have kc25 : ((m.1 104 (r5).toNatClampNeg) + r10).toInt = ((m.1 104 (r5).toNatClampNeg)).toInt + (r10).toInt := a_add (by omega) (by omega)
        have ki26 : zI (sm_w1 m 104 (r5).toNatClampNeg ((m.1 104 (r5).toNatClampNeg) + r10)) := zI.w hI rfl (rg _)
        have kc27 : 0 ≤ ((sm_w1 m 104 (r5).toNatClampNeg ((m.1 104 (r5).toNatClampNeg) + r10)).1 72 6).toInt ∧ ((sm_w1 m 104 (r5).toNatClampNeg ((m.1 104 (r5).toNatClampNeg) + r10)).1 72 6).toInt ≤ 14 := ki26.1 72 6
        have kc28 : 0 ≤ ((sm_w1 m 104 (r5).toNatClampNeg ((m.1 104 (r5).toNatClampNeg) + r10)).1 72 25).toInt ∧ ((sm_w1 m 104 (r5).toNatClampNeg ((m.1 104 (r5).toNatClampNeg) + r10)).1 72 25).toInt ≤ 14 := ki26.1 72 25
        have kc29 := zI.le ki26
        have kc30 : ((sm_w1 m 104 (r5).toNatClampNeg ((m.1 104 (r5).toNatClampNeg) + r10)).1 72 25).toInt = (m.1 72 25).toInt := congrArg Int32.toInt (r_cell (by decide))
        have kc31 : ((sm_w1 m 104 (r5).toNatClampNeg ((m.1 104 (r5).toNatClampNeg) + r10)).1 72 6).toInt = (m.1 72 6).toInt := congrArg Int32.toInt (r_cell (by decide))
        have kf32 : Fr wX12_next m0 (sm_w1 m 104 (r5).toNatClampNeg ((m.1 104 (r5).toNatClampNeg) + r10)) := Fr.w hF rfl
        exact ih v1 v2 v3 (v4 + (1 : Int32)) (sm_w1 m 104 (r5).toNatClampNeg ((m.1 104 (r5).toNatClampNeg) + r10)) (show (-2 : Int) ≤ v1.toInt ∧ v1.toInt ≤ 13 ∧ 0 ≤ v2.toInt ∧ 0 ≤ v3.toInt ∧ v3.toInt ≤ 13 ∧ 0 ≤ (v4 + (1 : Int32)).toInt ∧ (v4 + (1 : Int32)).toInt ≤ 4096 ∧ v3.toInt < ((sm_w1 m 104 (r5).toNatClampNeg ((m.1 104 (r5).toNatClampNeg) + r10)).1 72 6).toInt ∧ 4096 - (v4 + (1 : Int32)).toInt < (n : Int) ∧ 14 - v3.toInt ≤ (Nk12 : Int) by omega) ki26 kf32
theorem zX12_next_23 (m0 : sm_S) (k12 : Int32 → Int32 → Int32 → sm_S → Option (Int32 × sm_S)) (Nk12 : Nat) (hk12 : ∀ (v1 : Int32) (v2 : Int32) (v3 : Int32) (m : sm_S), ((-2 : Int) ≤ v1.toInt ∧ v1.toInt ≤ 13 ∧ 0 ≤ v2.toInt ∧ 0 ≤ v3.toInt ∧ v3.toInt ≤ 14 ∧ 14 - v3.toInt < (Nk12 : Int)) → zI m → Fr wX12_next m0 m → Sf (fun r => (((-2 : Int) ≤ r.1.toInt) ∧ (r.1.toInt ≤ 13)) ∧ zI r.2 ∧ Fr wX12_next m0 r.2) (k12 v1 v2 v3 m)) : ∀ (n : Nat) (v1 : Int32) (v2 : Int32) (v3 : Int32) (v4 : Int32) (m : sm_S), ((-2 : Int) ≤ v1.toInt ∧ v1.toInt ≤ 13 ∧ 0 ≤ v2.toInt ∧ 0 ≤ v3.toInt ∧ v3.toInt ≤ 13 ∧ 0 ≤ v4.toInt ∧ v4.toInt ≤ 7 ∧ v3.toInt < (m.1 72 6).toInt ∧ 7 - v4.toInt < (n : Int) ∧ 14 - v3.toInt ≤ (Nk12 : Int)) → zI m → Fr wX12_next m0 m → Sf (fun r => (((-2 : Int) ≤ r.1.toInt) ∧ (r.1.toInt ≤ 13)) ∧ zI r.2 ∧ Fr wX12_next m0 r.2) (fX12_next_23 k12 n v1 v2 v3 v4 m) := by
  intro n
  induction n with
  | zero =>
    intro v1 v2 v3 v4 m hp hI hF
    have kc1 : 0 ≤ (m.1 72 6).toInt ∧ (m.1 72 6).toInt ≤ 14 := hI.1 72 6
    have kc2 : 0 ≤ (m.1 72 25).toInt ∧ (m.1 72 25).toInt ≤ 14 := hI.1 72 25
    have kc3 := zI.le hI
    have krgv2 := rg v2
    exfalso
    omega
  | succ n ih =>
    intro v1 v2 v3 v4 m hp hI hF
    have hnn : ((n + 1 : Nat) : Int) = (n : Int) + 1 := by omega
    have hfu := fuE
    have kc1 : 0 ≤ (m.1 72 6).toInt ∧ (m.1 72 6).toInt ≤ 14 := hI.1 72 6
    have kc2 : 0 ≤ (m.1 72 25).toInt ∧ (m.1 72 25).toInt ≤ 14 := hI.1 72 25
    have kc3 := zI.le hI
    have krgv2 := rg v2
    unfold fX12_next_23
    have kc4 := L7
    refine s_le (fun kh5 => ?_) (fun kh5 => ?_)
    · have kc6 := L0
      exact zX12_next_47 m0 k12 Nk12 hk12 sm_fu v1 v2 v3 (0 : Int32) m (show (-2 : Int) ≤ v1.toInt ∧ v1.toInt ≤ 13 ∧ 0 ≤ v2.toInt ∧ 0 ≤ v3.toInt ∧ v3.toInt ≤ 13 ∧ 0 ≤ (0 : Int32).toInt ∧ (0 : Int32).toInt ≤ 4096 ∧ v3.toInt < (m.1 72 6).toInt ∧ 4096 - (0 : Int32).toInt < (sm_fu : Int) ∧ 14 - v3.toInt ≤ (Nk12 : Int) by omega) hI hF
    · have kx7 : 0 ≤ (v4).toInt ∧ (v4).toInt < (7 : Int) := by omega
      refine s_ix kx7 ?_
      have kc8 : (v4 + (1 : Int32)).toInt = (v4).toInt + 1 := a_addl L1 (by omega) (by omega)
      have kc9 := L0
      have ki10 : zI (sm_w1 m 104 (v4).toNatClampNeg (0 : Int32)) := zI.w hI rfl (rg _)
      have kc11 : 0 ≤ ((sm_w1 m 104 (v4).toNatClampNeg (0 : Int32)).1 72 6).toInt ∧ ((sm_w1 m 104 (v4).toNatClampNeg (0 : Int32)).1 72 6).toInt ≤ 14 := ki10.1 72 6
      have kc12 : 0 ≤ ((sm_w1 m 104 (v4).toNatClampNeg (0 : Int32)).1 72 25).toInt ∧ ((sm_w1 m 104 (v4).toNatClampNeg (0 : Int32)).1 72 25).toInt ≤ 14 := ki10.1 72 25
      have kc13 := zI.le ki10
      have kc14 : ((sm_w1 m 104 (v4).toNatClampNeg (0 : Int32)).1 72 25).toInt = (m.1 72 25).toInt := congrArg Int32.toInt (r_cell (by decide))
      have kc15 : ((sm_w1 m 104 (v4).toNatClampNeg (0 : Int32)).1 72 6).toInt = (m.1 72 6).toInt := congrArg Int32.toInt (r_cell (by decide))
      have kf16 : Fr wX12_next m0 (sm_w1 m 104 (v4).toNatClampNeg (0 : Int32)) := Fr.w hF rfl
      exact ih v1 v2 v3 (v4 + (1 : Int32)) (sm_w1 m 104 (v4).toNatClampNeg (0 : Int32)) (show (-2 : Int) ≤ v1.toInt ∧ v1.toInt ≤ 13 ∧ 0 ≤ v2.toInt ∧ 0 ≤ v3.toInt ∧ v3.toInt ≤ 13 ∧ 0 ≤ (v4 + (1 : Int32)).toInt ∧ (v4 + (1 : Int32)).toInt ≤ 7 ∧ v3.toInt < ((sm_w1 m 104 (v4).toNatClampNeg (0 : Int32)).1 72 6).toInt ∧ 7 - (v4 + (1 : Int32)).toInt < (n : Int) ∧ 14 - v3.toInt ≤ (Nk12 : Int) by omega) ki10 kf16
theorem zX12_next_12 (m0 : sm_S) : ∀ (n : Nat) (v1 : Int32) (v2 : Int32) (v3 : Int32) (m : sm_S), ((-2 : Int) ≤ v1.toInt ∧ v1.toInt ≤ 13 ∧ 0 ≤ v2.toInt ∧ 0 ≤ v3.toInt ∧ v3.toInt ≤ 14 ∧ 14 - v3.toInt < (n : Int)) → zI m → Fr wX12_next m0 m → Sf (fun r => (((-2 : Int) ≤ r.1.toInt) ∧ (r.1.toInt ≤ 13)) ∧ zI r.2 ∧ Fr wX12_next m0 r.2) (fX12_next_12 n v1 v2 v3 m) := by
  intro n
  induction n with
  | zero =>
    intro v1 v2 v3 m hp hI hF
    have krgv2 := rg v2
    exfalso
    omega
  | succ n ih =>
    intro v1 v2 v3 m hp hI hF
    have hnn : ((n + 1 : Nat) : Int) = (n : Int) + 1 := by omega
    have hfu := fuE
    have krgv2 := rg v2
    unfold fX12_next_12
    have kc1 : 0 ≤ (m.1 72 6).toInt ∧ (m.1 72 6).toInt ≤ 14 := hI.1 72 6
    have kc2 : 0 ≤ (m.1 72 25).toInt ∧ (m.1 72 25).toInt ≤ 14 := hI.1 72 25
    have kc3 := zI.le hI
    refine s_le (fun kh4 => ?_) (fun kh4 => ?_)
    · have kc5 := L0
      refine s_le (fun kh6 => ?_) (fun kh6 => ?_)
      · have ki7 : zI (sm_w1 m 72 1 (0 : Int32)) := zI.w hI rfl (show 0 ≤ ((0 : Int32)).toInt ∧ ((0 : Int32)).toInt ≤ 24 by omega)
        have kc8 : 0 ≤ ((sm_w1 m 72 1 (0 : Int32)).1 72 1).toInt ∧ ((sm_w1 m 72 1 (0 : Int32)).1 72 1).toInt ≤ 24 := ki7.1 72 1
        have kc9 : ((sm_w1 m 72 1 (0 : Int32)).1 72 1).toInt = ((0 : Int32)).toInt := rfl
        refine s_bd (zX12_enters v2 (sm_w1 m 72 1 (0 : Int32)) (show ((sm_w1 m 72 1 (0 : Int32)).1 72 1).toInt ≤ 23 by omega) ki7) (fun m2 kr10 => ?_)
        obtain ⟨kp11, ki12, kf13⟩ := kr10
        replace kp11 : ((m2.1 72 1).toInt = ((sm_w1 m 72 1 (0 : Int32)).1 72 1).toInt + 1) := kp11
        have kc14 : 0 ≤ (m2.1 72 1).toInt ∧ (m2.1 72 1).toInt ≤ 24 := ki12.1 72 1
        have kf15 : Fr wX12_next m0 (sm_w1 m 72 1 (0 : Int32)) := Fr.w hF rfl
        have kf16 : Fr wX12_next m0 m2 := Fr.trans kf15 kf13 rfl
        exact s_ret ⟨(show ((-2 : Int) ≤ v1.toInt) ∧ (v1.toInt ≤ 13) by omega), ki12, kf16⟩
      · have kc17 := Ln2
        exact s_ret ⟨(show ((-2 : Int) ≤ (-2 : Int32).toInt) ∧ ((-2 : Int32).toInt ≤ 13) by omega), hI, hF⟩
    · have kc18 := L0
      exact zX12_next_23 m0 (fX12_next_12 n) n ih sm_fu v1 v2 v3 (0 : Int32) m (show (-2 : Int) ≤ v1.toInt ∧ v1.toInt ≤ 13 ∧ 0 ≤ v2.toInt ∧ 0 ≤ v3.toInt ∧ v3.toInt ≤ 13 ∧ 0 ≤ (0 : Int32).toInt ∧ (0 : Int32).toInt ≤ 7 ∧ v3.toInt < (m.1 72 6).toInt ∧ 7 - (0 : Int32).toInt < (sm_fu : Int) ∧ 14 - v3.toInt ≤ (n : Int) by omega) hI hF
theorem zX12_next (m : sm_S) (hI : zI m) : Sf (fun r => (((-2 : Int) ≤ r.1.toInt) ∧ (r.1.toInt ≤ 13)) ∧ zI r.2 ∧ Fr wX12_next m r.2) (fX12_next m) := by
  have hfu := fuE
  unfold fX12_next
  have kc1 := Ln2
  have kc2 := L0
  have ki3 : zI (sm_w1 m 72 0 (0 : Int32)) := zI.w hI rfl (show 0 ≤ ((0 : Int32)).toInt ∧ ((0 : Int32)).toInt ≤ 1 by omega)
  have kf4 : Fr wX12_next m (sm_w1 m 72 0 (0 : Int32)) := Fr.w Fr.refl rfl
  exact zX12_next_12 m sm_fu (-2 : Int32) (0 : Int32) (0 : Int32) (sm_w1 m 72 0 (0 : Int32)) (show (-2 : Int) ≤ (-2 : Int32).toInt ∧ (-2 : Int32).toInt ≤ 13 ∧ 0 ≤ (0 : Int32).toInt ∧ 0 ≤ (0 : Int32).toInt ∧ (0 : Int32).toInt ≤ 14 ∧ 14 - (0 : Int32).toInt < (sm_fu : Int) by omega) ki3 kf4
theorem zX12_lies_16 (m0 : sm_S) : ∀ (n : Nat) (v1 : Int32) (v2 : Int32) (m : sm_S), (0 ≤ v1.toInt ∧ v1.toInt ≤ 4095 ∧ 0 ≤ v2.toInt ∧ v2.toInt ≤ 4096 ∧ 4096 - v2.toInt < (n : Int)) → zI m → Fr wX12_lies m0 m → Sf (fun r => ((0 ≤ r.1.toInt) ∧ (r.1.toInt ≤ 63)) ∧ zI r.2 ∧ Fr wX12_lies m0 r.2) (fX12_lies_16 n v1 v2 m) := by
  intro n
  induction n with
  | zero =>
    intro v1 v2 m hp hI hF
    exfalso
    omega
  | succ n ih =>
    intro v1 v2 m hp hI hF
    have hnn : ((n + 1 : Nat) : Int) = (n : Int) + 1 := by omega
    have hfu := fuE
    unfold fX12_lies_16
    have kc1 := L4096
    refine s_le (fun kh2 => ?_) (fun kh2 => ?_)
    · have kc3 := L0
      have ki4 : zI (sm_w1 m 72 1 (0 : Int32)) := zI.w hI rfl (show 0 ≤ ((0 : Int32)).toInt ∧ ((0 : Int32)).toInt ≤ 24 by omega)
      have kc5 : 0 ≤ ((sm_w1 m 72 1 (0 : Int32)).1 72 1).toInt ∧ ((sm_w1 m 72 1 (0 : Int32)).1 72 1).toInt ≤ 24 := ki4.1 72 1
      have kc6 : ((sm_w1 m 72 1 (0 : Int32)).1 72 1).toInt = ((0 : Int32)).toInt := rfl
      refine s_bd (zX12_enters v1 (sm_w1 m 72 1 (0 : Int32)) (show ((sm_w1 m 72 1 (0 : Int32)).1 72 1).toInt ≤ 23 by omega) ki4) (fun m2 kr7 => ?_)
      obtain ⟨kp8, ki9, kf10⟩ := kr7
      replace kp8 : ((m2.1 72 1).toInt = ((sm_w1 m 72 1 (0 : Int32)).1 72 1).toInt + 1) := kp8
      have kc11 : 0 ≤ (m2.1 72 1).toInt ∧ (m2.1 72 1).toInt ≤ 24 := ki9.1 72 1
      refine s_bd (zJ6_bitCount_0f7a4 v1 m2 (show 0 ≤ v1.toInt ∧ v1.toInt ≤ 16383 by omega) ki9) (fun r4 kr12 => ?_)
      replace kr12 : (0 ≤ r4.toInt) ∧ (r4.toInt ≤ 63) := kr12
      have kf13 : Fr wX12_lies m0 (sm_w1 m 72 1 (0 : Int32)) := Fr.w hF rfl
      have kf14 : Fr wX12_lies m0 m2 := Fr.trans kf13 kf10 rfl
      exact s_ret ⟨(show (0 ≤ r4.toInt) ∧ (r4.toInt ≤ 63) by omega), ki9, kf14⟩
    · refine s_bd (zX12_wrongOf v2 m (show 0 ≤ v2.toInt ∧ v2.toInt ≤ 4095 by omega) hI) (fun r6 kr15 => ?_)
      replace kr15 : (0 ≤ r6.toInt) ∧ (r6.toInt ≤ 4095) := kr15
      refine s_bd (zJ6_bitCount_0f7a4 r6 m (show 0 ≤ r6.toInt ∧ r6.toInt ≤ 16383 by omega) hI) (fun r8 kr16 => ?_)
      replace kr16 : (0 ≤ r8.toInt) ∧ (r8.toInt ≤ 63) := kr16
      refine s_bd (zJ6_bitCount_0f7a4 v1 m (show 0 ≤ v1.toInt ∧ v1.toInt ≤ 16383 by omega) hI) (fun r10 kr17 => ?_)
      replace kr17 : (0 ≤ r10.toInt) ∧ (r10.toInt ≤ 63) := kr17
      have kc18 : (r8 - r10).toInt = (r8).toInt - (r10).toInt := a_sub (by omega) (by omega)
      have kc19 := L0
      refine s_lt (fun kh20 => ?_) (fun kh20 => ?_)
      · have kc21 : (v2 + (1 : Int32)).toInt = (v2).toInt + 1 := a_addl L1 (by omega) (by omega)
        exact ih r6 (v2 + (1 : Int32)) m (show 0 ≤ r6.toInt ∧ r6.toInt ≤ 4095 ∧ 0 ≤ (v2 + (1 : Int32)).toInt ∧ (v2 + (1 : Int32)).toInt ≤ 4096 ∧ 4096 - (v2 + (1 : Int32)).toInt < (n : Int) by omega) hI hF
      · refine s_eq (fun kh22 => ?_) (fun kh22 => ?_)
        · refine s_le (fun kh23 => ?_) (fun kh23 => ?_)
          · have kc24 : (v2 + (1 : Int32)).toInt = (v2).toInt + 1 := a_addl L1 (by omega) (by omega)
            exact ih v1 (v2 + (1 : Int32)) m (show 0 ≤ v1.toInt ∧ v1.toInt ≤ 4095 ∧ 0 ≤ (v2 + (1 : Int32)).toInt ∧ (v2 + (1 : Int32)).toInt ≤ 4096 ∧ 4096 - (v2 + (1 : Int32)).toInt < (n : Int) by omega) hI hF
          · have kc25 : (v2 + (1 : Int32)).toInt = (v2).toInt + 1 := a_addl L1 (by omega) (by omega)
            exact ih r6 (v2 + (1 : Int32)) m (show 0 ≤ r6.toInt ∧ r6.toInt ≤ 4095 ∧ 0 ≤ (v2 + (1 : Int32)).toInt ∧ (v2 + (1 : Int32)).toInt ≤ 4096 ∧ 4096 - (v2 + (1 : Int32)).toInt < (n : Int) by omega) hI hF
        · have kc26 : (v2 + (1 : Int32)).toInt = (v2).toInt + 1 := a_addl L1 (by omega) (by omega)
          exact ih v1 (v2 + (1 : Int32)) m (show 0 ≤ v1.toInt ∧ v1.toInt ≤ 4095 ∧ 0 ≤ (v2 + (1 : Int32)).toInt ∧ (v2 + (1 : Int32)).toInt ≤ 4096 ∧ 4096 - (v2 + (1 : Int32)).toInt < (n : Int) by omega) hI hF
theorem zX12_lies (m : sm_S) (hI : zI m) : Sf (fun r => ((0 ≤ r.1.toInt) ∧ (r.1.toInt ≤ 63)) ∧ zI r.2 ∧ Fr wX12_lies m r.2) (fX12_lies m) := by
  have hfu := fuE
  unfold fX12_lies
  have kc1 := L1
  have kc2 : 0 ≤ (m.1 72 51).toInt ∧ (m.1 72 51).toInt ≤ 12 := hI.1 72 51
  have kc3 := L31
  have kc4 : 0 ≤ ((m.1 72 51) &&& (31 : Int32)).toInt ∧ ((m.1 72 51) &&& (31 : Int32)).toInt ≤ ((31 : Int32)).toInt := a_andr (by omega)
  have kc5 : 0 ≤ ((m.1 72 51) &&& (31 : Int32)).toInt ∧ ((m.1 72 51) &&& (31 : Int32)).toInt ≤ ((m.1 72 51)).toInt := a_andl (by omega)
  have kc6 : 1 ≤ ((1 : Int32) <<< ((m.1 72 51) &&& (31 : Int32))).toInt ∧ ((1 : Int32) <<< ((m.1 72 51) &&& (31 : Int32))).toInt ≤ 4096 := a_shl 12 (by decide) (by decide) (by omega) (by omega)
  have kc7 : (((1 : Int32) <<< ((m.1 72 51) &&& (31 : Int32))) - (1 : Int32)).toInt = (((1 : Int32) <<< ((m.1 72 51) &&& (31 : Int32)))).toInt - 1 := a_subl L1 (by omega) (by omega)
  have kc8 := L0
  have ki9 : zI (sm_w1 m 72 0 (0 : Int32)) := zI.w hI rfl (show 0 ≤ ((0 : Int32)).toInt ∧ ((0 : Int32)).toInt ≤ 1 by omega)
  have kf10 : Fr wX12_lies m (sm_w1 m 72 0 (0 : Int32)) := Fr.w Fr.refl rfl
  exact zX12_lies_16 m sm_fu (((1 : Int32) <<< ((m.1 72 51) &&& (31 : Int32))) - (1 : Int32)) (0 : Int32) (sm_w1 m 72 0 (0 : Int32)) (show 0 ≤ (((1 : Int32) <<< ((m.1 72 51) &&& (31 : Int32))) - (1 : Int32)).toInt ∧ (((1 : Int32) <<< ((m.1 72 51) &&& (31 : Int32))) - (1 : Int32)).toInt ≤ 4095 ∧ 0 ≤ (0 : Int32).toInt ∧ (0 : Int32).toInt ≤ 4096 ∧ 4096 - (0 : Int32).toInt < (sm_fu : Int) by omega) ki9 kf10
theorem zX12_holds_2 : ∀ (n : Nat) (v1 : Int32) (v2 : Int32) (m : sm_S), (0 ≤ v2.toInt ∧ v2.toInt ≤ 4096 ∧ 4096 - v2.toInt < (n : Int)) → zI m → Sf (fun r => (0 ≤ r.toInt) ∧ (r.toInt ≤ 1)) (fX12_holds_2 n v1 v2 m) := by
  intro n
  induction n with
  | zero =>
    intro v1 v2 m hp hI
    exfalso
    omega
  | succ n ih =>
    intro v1 v2 m hp hI
    have hnn : ((n + 1 : Nat) : Int) = (n : Int) + 1 := by omega
    have hfu := fuE
    unfold fX12_holds_2
    have kc1 := L4096
    refine s_le (fun kh2 => ?_) (fun kh2 => ?_)
    · have kc3 := L0
      exact s_ret (show (0 ≤ (0 : Int32).toInt) ∧ ((0 : Int32).toInt ≤ 1) by omega)
    · refine s_bd (zX12_wrongOf v2 m (show 0 ≤ v2.toInt ∧ v2.toInt ≤ 4095 by omega) hI) (fun r2 kr4 => ?_)
      replace kr4 : (0 ≤ r2.toInt) ∧ (r2.toInt ≤ 4095) := kr4
      have kc5 : 0 ≤ (r2 &&& v1).toInt ∧ (r2 &&& v1).toInt ≤ (r2).toInt := a_andl (by omega)
      have kc6 := L0
      refine s_eq (fun kh7 => ?_) (fun kh7 => ?_)
      · have kc8 := L1
        exact s_ret (show (0 ≤ (1 : Int32).toInt) ∧ ((1 : Int32).toInt ≤ 1) by omega)
      · have kc9 : (v2 + (1 : Int32)).toInt = (v2).toInt + 1 := a_addl L1 (by omega) (by omega)
        exact ih v1 (v2 + (1 : Int32)) m (show 0 ≤ (v2 + (1 : Int32)).toInt ∧ (v2 + (1 : Int32)).toInt ≤ 4096 ∧ 4096 - (v2 + (1 : Int32)).toInt < (n : Int) by omega) hI
theorem zX12_holds (x1 : Int32) (m : sm_S) (hI : zI m) : Sf (fun r => (0 ≤ r.toInt) ∧ (r.toInt ≤ 1)) (fX12_holds x1 m) := by
  have hfu := fuE
  unfold fX12_holds
  have kc1 := L0
  exact zX12_holds_2 sm_fu x1 (0 : Int32) m (show 0 ≤ (0 : Int32).toInt ∧ (0 : Int32).toInt ≤ 4096 ∧ 4096 - (0 : Int32).toInt < (sm_fu : Int) by omega) hI
theorem zX12_quarrel_50 (m0 : sm_S) : ∀ (n : Nat) (v1 : Int32) (v2 : Int32) (v3 : Int32) (m : sm_S), (0 ≤ v1.toInt ∧ v1.toInt ≤ 12 ∧ (-1 : Int) ≤ v2.toInt ∧ v2.toInt ≤ 11 ∧ (-1 : Int) ≤ v3.toInt ∧ v3.toInt ≤ 11 ∧ v3.toInt + 1 < (n : Int)) → zI m → Fr wX12_quarrel m0 m → Sf (fun r => (((-2 : Int) ≤ r.1.toInt) ∧ (r.1.toInt ≤ 12)) ∧ zI r.2 ∧ Fr wX12_quarrel m0 r.2) (fX12_quarrel_50 n v1 v2 v3 m) := by
  intro n
  induction n with
  | zero =>
    intro v1 v2 v3 m hp hI hF
    exfalso
    omega
  | succ n ih =>
    intro v1 v2 v3 m hp hI hF
    have hnn : ((n + 1 : Nat) : Int) = (n : Int) + 1 := by omega
    have hfu := fuE
    unfold fX12_quarrel_50
    simp only [a_m1, a_m8]
    have kc1 := L0
    refine s_lt (fun kh2 => ?_) (fun kh2 => ?_)
    · have ki3 : zI (sm_w1 m 72 1 (0 : Int32)) := zI.w hI rfl (show 0 ≤ ((0 : Int32)).toInt ∧ ((0 : Int32)).toInt ≤ 24 by omega)
      have kc4 : 0 ≤ ((sm_w1 m 72 1 (0 : Int32)).1 72 1).toInt ∧ ((sm_w1 m 72 1 (0 : Int32)).1 72 1).toInt ≤ 24 := ki3.1 72 1
      have kc5 : ((sm_w1 m 72 1 (0 : Int32)).1 72 1).toInt = ((0 : Int32)).toInt := rfl
      refine s_bd (zX12_enters v2 (sm_w1 m 72 1 (0 : Int32)) (show ((sm_w1 m 72 1 (0 : Int32)).1 72 1).toInt ≤ 23 by omega) ki3) (fun m2 kr6 => ?_)
      obtain ⟨kp7, ki8, kf9⟩ := kr6
      replace kp7 : ((m2.1 72 1).toInt = ((sm_w1 m 72 1 (0 : Int32)).1 72 1).toInt + 1) := kp7
      have kc10 : 0 ≤ (m2.1 72 1).toInt ∧ (m2.1 72 1).toInt ≤ 24 := ki8.1 72 1
      have kf11 : Fr wX12_quarrel m0 (sm_w1 m 72 1 (0 : Int32)) := Fr.w hF rfl
      have kf12 : Fr wX12_quarrel m0 m2 := Fr.trans kf11 kf9 rfl
      exact s_ret ⟨(show ((-2 : Int) ≤ v1.toInt) ∧ (v1.toInt ≤ 12) by omega), ki8, kf12⟩
    · refine s_bd (zX12_holds (((1 : Int32) <<< (v1 &&& (31 : Int32))) ||| ((1 : Int32) <<< (v3 &&& (31 : Int32)))) m hI) (fun r4 kr13 => ?_)
      replace kr13 : (0 ≤ r4.toInt) ∧ (r4.toInt ≤ 1) := kr13
      refine s_eq (fun kh14 => ?_) (fun kh14 => ?_)
      · have kc15 : (v3 - (1 : Int32)).toInt = (v3).toInt - 1 := a_subl L1 (by omega) (by omega)
        exact ih v1 v3 (v3 - (1 : Int32)) m (show 0 ≤ v1.toInt ∧ v1.toInt ≤ 12 ∧ (-1 : Int) ≤ v3.toInt ∧ v3.toInt ≤ 11 ∧ (-1 : Int) ≤ (v3 - (1 : Int32)).toInt ∧ (v3 - (1 : Int32)).toInt ≤ 11 ∧ (v3 - (1 : Int32)).toInt + 1 < (n : Int) by omega) hI hF
      · have kc16 : (v3 - (1 : Int32)).toInt = (v3).toInt - 1 := a_subl L1 (by omega) (by omega)
        exact ih v1 v2 (v3 - (1 : Int32)) m (show 0 ≤ v1.toInt ∧ v1.toInt ≤ 12 ∧ (-1 : Int) ≤ v2.toInt ∧ v2.toInt ≤ 11 ∧ (-1 : Int) ≤ (v3 - (1 : Int32)).toInt ∧ (v3 - (1 : Int32)).toInt ≤ 11 ∧ (v3 - (1 : Int32)).toInt + 1 < (n : Int) by omega) hI hF
theorem zX12_quarrel_7 (m0 : sm_S) : ∀ (n : Nat) (v1 : Int32) (m : sm_S), (0 ≤ v1.toInt ∧ v1.toInt ≤ 12 ∧ 12 - v1.toInt < (n : Int)) → zI m → Fr wX12_quarrel m0 m → Sf (fun r => (((-2 : Int) ≤ r.1.toInt) ∧ (r.1.toInt ≤ 12)) ∧ zI r.2 ∧ Fr wX12_quarrel m0 r.2) (fX12_quarrel_7 n v1 m) := by
  intro n
  induction n with
  | zero =>
    intro v1 m hp hI hF
    exfalso
    omega
  | succ n ih =>
    intro v1 m hp hI hF
    have hnn : ((n + 1 : Nat) : Int) = (n : Int) + 1 := by omega
    have hfu := fuE
    unfold fX12_quarrel_7
    have kc1 : 0 ≤ (m.1 72 51).toInt ∧ (m.1 72 51).toInt ≤ 12 := hI.1 72 51
    refine s_le (fun kh2 => ?_) (fun kh2 => ?_)
    · refine s_eq (fun kh3 => ?_) (fun kh3 => ?_)
      · have kc4 := Ln2
        exact s_ret ⟨(show ((-2 : Int) ≤ (-2 : Int32).toInt) ∧ ((-2 : Int32).toInt ≤ 12) by omega), hI, hF⟩
      · have kc5 := Ln1
        have kc6 : (v1 - (1 : Int32)).toInt = (v1).toInt - 1 := a_subl L1 (by omega) (by omega)
        exact zX12_quarrel_50 m0 sm_fu v1 (-1 : Int32) (v1 - (1 : Int32)) m (show 0 ≤ v1.toInt ∧ v1.toInt ≤ 12 ∧ (-1 : Int) ≤ (-1 : Int32).toInt ∧ (-1 : Int32).toInt ≤ 11 ∧ (-1 : Int) ≤ (v1 - (1 : Int32)).toInt ∧ (v1 - (1 : Int32)).toInt ≤ 11 ∧ (v1 - (1 : Int32)).toInt + 1 < (sm_fu : Int) by omega) hI hF
    · refine s_bd (zX12_holds (((2 : Int32) <<< (v1 &&& (31 : Int32))) - (1 : Int32)) m hI) (fun r6 kr7 => ?_)
      replace kr7 : (0 ≤ r6.toInt) ∧ (r6.toInt ≤ 1) := kr7
      have kc8 := L0
      refine s_eq (fun kh9 => ?_) (fun kh9 => ?_)
      · refine s_eq (fun kh10 => ?_) (fun kh10 => ?_)
        · have kc11 := Ln2
          exact s_ret ⟨(show ((-2 : Int) ≤ (-2 : Int32).toInt) ∧ ((-2 : Int32).toInt ≤ 12) by omega), hI, hF⟩
        · have kc12 := Ln1
          have kc13 : (v1 - (1 : Int32)).toInt = (v1).toInt - 1 := a_subl L1 (by omega) (by omega)
          exact zX12_quarrel_50 m0 sm_fu v1 (-1 : Int32) (v1 - (1 : Int32)) m (show 0 ≤ v1.toInt ∧ v1.toInt ≤ 12 ∧ (-1 : Int) ≤ (-1 : Int32).toInt ∧ (-1 : Int32).toInt ≤ 11 ∧ (-1 : Int) ≤ (v1 - (1 : Int32)).toInt ∧ (v1 - (1 : Int32)).toInt ≤ 11 ∧ (v1 - (1 : Int32)).toInt + 1 < (sm_fu : Int) by omega) hI hF
      · have kc14 : (v1 + (1 : Int32)).toInt = (v1).toInt + 1 := a_addl L1 (by omega) (by omega)
        exact ih (v1 + (1 : Int32)) m (show 0 ≤ (v1 + (1 : Int32)).toInt ∧ (v1 + (1 : Int32)).toInt ≤ 12 ∧ 12 - (v1 + (1 : Int32)).toInt < (n : Int) by omega) hI hF
