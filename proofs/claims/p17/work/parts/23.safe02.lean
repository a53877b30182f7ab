theorem zX2_hasHedge (x1 : Int32) (m : sm_S) (hI : zI m) : Sf (fun r => (0 ≤ r.toInt) ∧ (r.toInt ≤ 1) ∧ ((r.toInt = 0 ∧ (x1.toInt < 0 ∨ (m.1 3 1).toInt ≤ x1.toInt)) ∨ (r.toInt = 1 ∧ 0 ≤ x1.toInt ∧ x1.toInt < (m.1 3 1).toInt))) (fX2_hasHedge x1 m) := by
  have hfu := fuE
  unfold fX2_hasHedge
  have kc1 := L0
  refine s_lt (fun kh2 => ?_) (fun kh2 => ?_)
  · have kc3 : 0 ≤ (m.1 3 1).toInt ∧ (m.1 3 1).toInt ≤ 14 := hI.1 3 1
    exact s_ret (show (0 ≤ (0 : Int32).toInt) ∧ ((0 : Int32).toInt ≤ 1) ∧ (((0 : Int32).toInt = 0 ∧ (x1.toInt < 0 ∨ (m.1 3 1).toInt ≤ x1.toInt)) ∨ ((0 : Int32).toInt = 1 ∧ 0 ≤ x1.toInt ∧ x1.toInt < (m.1 3 1).toInt)) by omega)
  · have kc4 : 0 ≤ (m.1 3 1).toInt ∧ (m.1 3 1).toInt ≤ 14 := hI.1 3 1
    refine s_le (fun kh5 => ?_) (fun kh5 => ?_)
    · exact s_ret (show (0 ≤ (0 : Int32).toInt) ∧ ((0 : Int32).toInt ≤ 1) ∧ (((0 : Int32).toInt = 0 ∧ (x1.toInt < 0 ∨ (m.1 3 1).toInt ≤ x1.toInt)) ∨ ((0 : Int32).toInt = 1 ∧ 0 ≤ x1.toInt ∧ x1.toInt < (m.1 3 1).toInt)) by omega)
    · have kc6 := L1
      exact s_ret (show (0 ≤ (1 : Int32).toInt) ∧ ((1 : Int32).toInt ≤ 1) ∧ (((1 : Int32).toInt = 0 ∧ (x1.toInt < 0 ∨ (m.1 3 1).toInt ≤ x1.toInt)) ∨ ((1 : Int32).toInt = 1 ∧ 0 ≤ x1.toInt ∧ x1.toInt < (m.1 3 1).toInt)) by omega)
theorem zX6_day (m : sm_S) (hI : zI m) : Sf (fun r => True) (fX6_day m) := by
  have hfu := fuE
  unfold fX6_day
  have kc1 := L60
  exact s_ret trivial
theorem zX6_isFresh (x1 : Int32) (m : sm_S) (hp : 0 ≤ x1.toInt ∧ x1.toInt ≤ 13) (hI : zI m) : Sf (fun r => (0 ≤ r.toInt) ∧ (r.toInt ≤ 1)) (fX6_isFresh x1 m) := by
  have hfu := fuE
  unfold fX6_isFresh
  have kx1 : 0 ≤ (x1).toInt ∧ (x1).toInt < (14 : Int) := by omega
  refine s_ix kx1 ?_
  have kc2 := Ln1
  refine s_eq (fun kh3 => ?_) (fun kh3 => ?_)
  · have kc4 := L1
    exact s_ret (show (0 ≤ (1 : Int32).toInt) ∧ ((1 : Int32).toInt ≤ 1) by omega)
  · refine s_bd (zX6_day m hI) (fun r3 kr5 => ?_)
    refine s_ix kx1 ?_
    have kc6 : 0 ≤ (m.1 3 2).toInt ∧ (m.1 3 2).toInt ≤ 99 := hI.1 3 2
    refine s_lt (fun kh7 => ?_) (fun kh7 => ?_)
    · have kc8 := L0
      exact s_ret (show (0 ≤ (0 : Int32).toInt) ∧ ((0 : Int32).toInt ≤ 1) by omega)
    · have kc9 := L1
      exact s_ret (show (0 ≤ (1 : Int32).toInt) ∧ ((1 : Int32).toInt ≤ 1) by omega)
theorem zX2_hasCorner (x1 : Int32) (m : sm_S) (hI : zI m) : Sf (fun r => (0 ≤ r.toInt) ∧ (r.toInt ≤ 1) ∧ ((r.toInt = 0 ∧ (x1.toInt < 0 ∨ (m.1 3 0).toInt ≤ x1.toInt)) ∨ (r.toInt = 1 ∧ 0 ≤ x1.toInt ∧ x1.toInt < (m.1 3 0).toInt))) (fX2_hasCorner x1 m) := by
  have hfu := fuE
  unfold fX2_hasCorner
  have kc1 := L0
  refine s_lt (fun kh2 => ?_) (fun kh2 => ?_)
  · have kc3 : 0 ≤ (m.1 3 0).toInt ∧ (m.1 3 0).toInt ≤ 10 := hI.1 3 0
    exact s_ret (show (0 ≤ (0 : Int32).toInt) ∧ ((0 : Int32).toInt ≤ 1) ∧ (((0 : Int32).toInt = 0 ∧ (x1.toInt < 0 ∨ (m.1 3 0).toInt ≤ x1.toInt)) ∨ ((0 : Int32).toInt = 1 ∧ 0 ≤ x1.toInt ∧ x1.toInt < (m.1 3 0).toInt)) by omega)
  · have kc4 : 0 ≤ (m.1 3 0).toInt ∧ (m.1 3 0).toInt ≤ 10 := hI.1 3 0
    refine s_le (fun kh5 => ?_) (fun kh5 => ?_)
    · exact s_ret (show (0 ≤ (0 : Int32).toInt) ∧ ((0 : Int32).toInt ≤ 1) ∧ (((0 : Int32).toInt = 0 ∧ (x1.toInt < 0 ∨ (m.1 3 0).toInt ≤ x1.toInt)) ∨ ((0 : Int32).toInt = 1 ∧ 0 ≤ x1.toInt ∧ x1.toInt < (m.1 3 0).toInt)) by omega)
    · have kc6 := L1
      exact s_ret (show (0 ≤ (1 : Int32).toInt) ∧ ((1 : Int32).toInt ≤ 1) ∧ (((1 : Int32).toInt = 0 ∧ (x1.toInt < 0 ∨ (m.1 3 0).toInt ≤ x1.toInt)) ∨ ((1 : Int32).toInt = 1 ∧ 0 ≤ x1.toInt ∧ x1.toInt < (m.1 3 0).toInt)) by omega)
theorem zX2_grassBetween (x1 : Int32) (x2 : Int32) (m : sm_S) (hp : 0 ≤ x1.toInt ∧ x1.toInt ≤ 9 ∧ 0 ≤ x2.toInt ∧ x2.toInt ≤ 9) (hI : zI m) : Sf (fun r => (0 ≤ r.toInt) ∧ (r.toInt ≤ 36)) (fX2_grassBetween x1 x2 m) := by
  have hfu := fuE
  unfold fX2_grassBetween
  have kx1 : 0 ≤ (x1).toInt ∧ (x1).toInt < (10 : Int) := by omega
  refine s_ix kx1 ?_
  have kx2 : 0 ≤ (x2).toInt ∧ (x2).toInt < (10 : Int) := by omega
  refine s_ix kx2 ?_
  refine s_ix kx1 ?_
  refine s_ix kx2 ?_
  have kc3 := L2
  have kc4 := L0
  have kc5 : 0 ≤ (m.1 4 (x1).toNatClampNeg).toInt ∧ (m.1 4 (x1).toNatClampNeg).toInt ≤ 9 := hI.1 4 (x1).toNatClampNeg
  have kc6 : 0 ≤ (m.1 4 (x2).toNatClampNeg).toInt ∧ (m.1 4 (x2).toNatClampNeg).toInt ≤ 9 := hI.1 4 (x2).toNatClampNeg
  have kc7 : ((m.1 4 (x1).toNatClampNeg) - (m.1 4 (x2).toNatClampNeg)).toInt = ((m.1 4 (x1).toNatClampNeg)).toInt - ((m.1 4 (x2).toNatClampNeg)).toInt := a_sub (by omega) (by omega)
  have kc8 : ((0 : Int32) - ((m.1 4 (x1).toNatClampNeg) - (m.1 4 (x2).toNatClampNeg))).toInt = ((0 : Int32)).toInt - (((m.1 4 (x1).toNatClampNeg) - (m.1 4 (x2).toNatClampNeg))).toInt := a_sub (by omega) (by omega)
  have kc9 : (((0 : Int32)).toInt ≤ (((m.1 4 (x1).toNatClampNeg) - (m.1 4 (x2).toNatClampNeg))).toInt ∧ (if (0 : Int32) ≤ ((m.1 4 (x1).toNatClampNeg) - (m.1 4 (x2).toNatClampNeg)) then ((m.1 4 (x1).toNatClampNeg) - (m.1 4 (x2).toNatClampNeg)) else ((0 : Int32) - ((m.1 4 (x1).toNatClampNeg) - (m.1 4 (x2).toNatClampNeg)))).toInt = (((m.1 4 (x1).toNatClampNeg) - (m.1 4 (x2).toNatClampNeg))).toInt) ∨ ((((m.1 4 (x1).toNatClampNeg) - (m.1 4 (x2).toNatClampNeg))).toInt < ((0 : Int32)).toInt ∧ (if (0 : Int32) ≤ ((m.1 4 (x1).toNatClampNeg) - (m.1 4 (x2).toNatClampNeg)) then ((m.1 4 (x1).toNatClampNeg) - (m.1 4 (x2).toNatClampNeg)) else ((0 : Int32) - ((m.1 4 (x1).toNatClampNeg) - (m.1 4 (x2).toNatClampNeg)))).toInt = (((0 : Int32) - ((m.1 4 (x1).toNatClampNeg) - (m.1 4 (x2).toNatClampNeg)))).toInt) := a_ile
  have kc10 : 0 ≤ (m.1 5 (x1).toNatClampNeg).toInt ∧ (m.1 5 (x1).toNatClampNeg).toInt ≤ 9 := hI.1 5 (x1).toNatClampNeg
  have kc11 : 0 ≤ (m.1 5 (x2).toNatClampNeg).toInt ∧ (m.1 5 (x2).toNatClampNeg).toInt ≤ 9 := hI.1 5 (x2).toNatClampNeg
  have kc12 : ((m.1 5 (x1).toNatClampNeg) - (m.1 5 (x2).toNatClampNeg)).toInt = ((m.1 5 (x1).toNatClampNeg)).toInt - ((m.1 5 (x2).toNatClampNeg)).toInt := a_sub (by omega) (by omega)
  have kc13 : ((0 : Int32) - ((m.1 5 (x1).toNatClampNeg) - (m.1 5 (x2).toNatClampNeg))).toInt = ((0 : Int32)).toInt - (((m.1 5 (x1).toNatClampNeg) - (m.1 5 (x2).toNatClampNeg))).toInt := a_sub (by omega) (by omega)
  have kc14 : (((0 : Int32)).toInt ≤ (((m.1 5 (x1).toNatClampNeg) - (m.1 5 (x2).toNatClampNeg))).toInt ∧ (if (0 : Int32) ≤ ((m.1 5 (x1).toNatClampNeg) - (m.1 5 (x2).toNatClampNeg)) then ((m.1 5 (x1).toNatClampNeg) - (m.1 5 (x2).toNatClampNeg)) else ((0 : Int32) - ((m.1 5 (x1).toNatClampNeg) - (m.1 5 (x2).toNatClampNeg)))).toInt = (((m.1 5 (x1).toNatClampNeg) - (m.1 5 (x2).toNatClampNeg))).toInt) ∨ ((((m.1 5 (x1).toNatClampNeg) - (m.1 5 (x2).toNatClampNeg))).toInt < ((0 : Int32)).toInt ∧ (if (0 : Int32) ≤ ((m.1 5 (x1).toNatClampNeg) - (m.1 5 (x2).toNatClampNeg)) then ((m.1 5 (x1).toNatClampNeg) - (m.1 5 (x2).toNatClampNeg)) else ((0 : Int32) - ((m.1 5 (x1).toNatClampNeg) - (m.1 5 (x2).toNatClampNeg)))).toInt = (((0 : Int32) - ((m.1 5 (x1).toNatClampNeg) - (m.1 5 (x2).toNatClampNeg)))).toInt) := a_ile
  have kc15 : ((if (0 : Int32) ≤ ((m.1 4 (x1).toNatClampNeg) - (m.1 4 (x2).toNatClampNeg)) then ((m.1 4 (x1).toNatClampNeg) - (m.1 4 (x2).toNatClampNeg)) else ((0 : Int32) - ((m.1 4 (x1).toNatClampNeg) - (m.1 4 (x2).toNatClampNeg)))) + (if (0 : Int32) ≤ ((m.1 5 (x1).toNatClampNeg) - (m.1 5 (x2).toNatClampNeg)) then ((m.1 5 (x1).toNatClampNeg) - (m.1 5 (x2).toNatClampNeg)) else ((0 : Int32) - ((m.1 5 (x1).toNatClampNeg) - (m.1 5 (x2).toNatClampNeg))))).toInt = ((if (0 : Int32) ≤ ((m.1 4 (x1).toNatClampNeg) - (m.1 4 (x2).toNatClampNeg)) then ((m.1 4 (x1).toNatClampNeg) - (m.1 4 (x2).toNatClampNeg)) else ((0 : Int32) - ((m.1 4 (x1).toNatClampNeg) - (m.1 4 (x2).toNatClampNeg))))).toInt + ((if (0 : Int32) ≤ ((m.1 5 (x1).toNatClampNeg) - (m.1 5 (x2).toNatClampNeg)) then ((m.1 5 (x1).toNatClampNeg) - (m.1 5 (x2).toNatClampNeg)) else ((0 : Int32) - ((m.1 5 (x1).toNatClampNeg) - (m.1 5 (x2).toNatClampNeg))))).toInt := a_add (by omega) (by omega)
  have kc16 : ((2 : Int32) * ((if (0 : Int32) ≤ ((m.1 4 (x1).toNatClampNeg) - (m.1 4 (x2).toNatClampNeg)) then ((m.1 4 (x1).toNatClampNeg) - (m.1 4 (x2).toNatClampNeg)) else ((0 : Int32) - ((m.1 4 (x1).toNatClampNeg) - (m.1 4 (x2).toNatClampNeg)))) + (if (0 : Int32) ≤ ((m.1 5 (x1).toNatClampNeg) - (m.1 5 (x2).toNatClampNeg)) then ((m.1 5 (x1).toNatClampNeg) - (m.1 5 (x2).toNatClampNeg)) else ((0 : Int32) - ((m.1 5 (x1).toNatClampNeg) - (m.1 5 (x2).toNatClampNeg)))))).toInt = 2 * (((if (0 : Int32) ≤ ((m.1 4 (x1).toNatClampNeg) - (m.1 4 (x2).toNatClampNeg)) then ((m.1 4 (x1).toNatClampNeg) - (m.1 4 (x2).toNatClampNeg)) else ((0 : Int32) - ((m.1 4 (x1).toNatClampNeg) - (m.1 4 (x2).toNatClampNeg)))) + (if (0 : Int32) ≤ ((m.1 5 (x1).toNatClampNeg) - (m.1 5 (x2).toNatClampNeg)) then ((m.1 5 (x1).toNatClampNeg) - (m.1 5 (x2).toNatClampNeg)) else ((0 : Int32) - ((m.1 5 (x1).toNatClampNeg) - (m.1 5 (x2).toNatClampNeg)))))).toInt := a_mul L2 rfl (by omega) (by omega)
  exact s_ret (show (0 ≤ ((2 : Int32) * ((if (0 : Int32) ≤ ((m.1 4 (x1).toNatClampNeg) - (m.1 4 (x2).toNatClampNeg)) then ((m.1 4 (x1).toNatClampNeg) - (m.1 4 (x2).toNatClampNeg)) else ((0 : Int32) - ((m.1 4 (x1).toNatClampNeg) - (m.1 4 (x2).toNatClampNeg)))) + (if (0 : Int32) ≤ ((m.1 5 (x1).toNatClampNeg) - (m.1 5 (x2).toNatClampNeg)) then ((m.1 5 (x1).toNatClampNeg) - (m.1 5 (x2).toNatClampNeg)) else ((0 : Int32) - ((m.1 5 (x1).toNatClampNeg) - (m.1 5 (x2).toNatClampNeg)))))).toInt) ∧ (((2 : Int32) * ((if (0 : Int32) ≤ ((m.1 4 (x1).toNatClampNeg) - (m.1 4 (x2).toNatClampNeg)) then ((m.1 4 (x1).toNatClampNeg) - (m.1 4 (x2).toNatClampNeg)) else ((0 : Int32) - ((m.1 4 (x1).toNatClampNeg) - (m.1 4 (x2).toNatClampNeg)))) + (if (0 : Int32) ≤ ((m.1 5 (x1).toNatClampNeg) - (m.1 5 (x2).toNatClampNeg)) then ((m.1 5 (x1).toNatClampNeg) - (m.1 5 (x2).toNatClampNeg)) else ((0 : Int32) - ((m.1 5 (x1).toNatClampNeg) - (m.1 5 (x2).toNatClampNeg)))))).toInt ≤ 36) by omega)
theorem zX11_grass (x1 : Int32) (x2 : Int32) (m : sm_S) (hI : zI m) : Sf (fun r => ((-1 : Int) ≤ r.toInt) ∧ (r.toInt ≤ 36)) (fX11_grass x1 x2 m) := by
  have hfu := fuE
  unfold fX11_grass
  refine s_bd (zX2_hasCorner x1 m hI) (fun r2 kr1 => ?_)
  replace kr1 : (0 ≤ r2.toInt) ∧ (r2.toInt ≤ 1) ∧ ((r2.toInt = 0 ∧ (x1.toInt < 0 ∨ (m.1 3 0).toInt ≤ x1.toInt)) ∨ (r2.toInt = 1 ∧ 0 ≤ x1.toInt ∧ x1.toInt < (m.1 3 0).toInt)) := kr1
  have kc2 := L0
  have kc3 : 0 ≤ (m.1 3 0).toInt ∧ (m.1 3 0).toInt ≤ 10 := hI.1 3 0
  refine s_eq (fun kh4 => ?_) (fun kh4 => ?_)
  · have kc5 := Ln1
    exact s_ret (show ((-1 : Int) ≤ (-1 : Int32).toInt) ∧ ((-1 : Int32).toInt ≤ 36) by omega)
  · refine s_bd (zX2_hasCorner x2 m hI) (fun r4 kr6 => ?_)
    replace kr6 : (0 ≤ r4.toInt) ∧ (r4.toInt ≤ 1) ∧ ((r4.toInt = 0 ∧ (x2.toInt < 0 ∨ (m.1 3 0).toInt ≤ x2.toInt)) ∨ (r4.toInt = 1 ∧ 0 ≤ x2.toInt ∧ x2.toInt < (m.1 3 0).toInt)) := kr6
    refine s_eq (fun kh7 => ?_) (fun kh7 => ?_)
    · have kc8 := Ln1
      exact s_ret (show ((-1 : Int) ≤ (-1 : Int32).toInt) ∧ ((-1 : Int32).toInt ≤ 36) by omega)
    · refine s_bd (zX2_grassBetween x1 x2 m (show 0 ≤ x1.toInt ∧ x1.toInt ≤ 9 ∧ 0 ≤ x2.toInt ∧ x2.toInt ≤ 9 by omega) hI) (fun r6 kr9 => ?_)
      replace kr9 : (0 ≤ r6.toInt) ∧ (r6.toInt ≤ 36) := kr9
      exact s_ret (show ((-1 : Int) ≤ r6.toInt) ∧ (r6.toInt ≤ 36) by omega)
theorem zX11_setDigit (x1 : Int32) (x2 : Int32) (m : sm_S) (hI : zI m) : Sf (fun r => (((-1 : Int) ≤ r.1.toInt) ∧ (r.1.toInt ≤ 9)) ∧ zI r.2 ∧ Fr wX11_setDigit m r.2) (fX11_setDigit x1 x2 m) := by
  have hfu := fuE
  unfold fX11_setDigit
  refine s_bd (zX2_hasHedge x1 m hI) (fun r2 kr1 => ?_)
  replace kr1 : (0 ≤ r2.toInt) ∧ (r2.toInt ≤ 1) ∧ ((r2.toInt = 0 ∧ (x1.toInt < 0 ∨ (m.1 3 1).toInt ≤ x1.toInt)) ∨ (r2.toInt = 1 ∧ 0 ≤ x1.toInt ∧ x1.toInt < (m.1 3 1).toInt)) := kr1
  have kc2 := L0
  have kc3 : 0 ≤ (m.1 3 1).toInt ∧ (m.1 3 1).toInt ≤ 14 := hI.1 3 1
  refine s_eq (fun kh4 => ?_) (fun kh4 => ?_)
  · have kc5 := Ln1
    exact s_ret ⟨(show ((-1 : Int) ≤ (-1 : Int32).toInt) ∧ ((-1 : Int32).toInt ≤ 9) by omega), hI, Fr.refl⟩
  · refine s_lt (fun kh6 => ?_) (fun kh6 => ?_)
    · have kc7 := Ln1
      exact s_ret ⟨(show ((-1 : Int) ≤ (-1 : Int32).toInt) ∧ ((-1 : Int32).toInt ≤ 9) by omega), hI, Fr.refl⟩
    · have kc8 := L9
      refine s_le (fun kh9 => ?_) (fun kh9 => ?_)
      · have kx10 : 0 ≤ (x1).toInt ∧ (x1).toInt < (14 : Int) := by omega
        refine s_ix kx10 ?_
        refine s_ix kx10 ?_
        have kc11 : 0 ≤ (m.1 11 (x1).toNatClampNeg).toInt ∧ (m.1 11 (x1).toNatClampNeg).toInt ≤ 9 := hI.1 11 (x1).toNatClampNeg
        have ki12 : zI (sm_w1 m 11 (x1).toNatClampNeg x2) := zI.w hI rfl (show 0 ≤ (x2).toInt ∧ (x2).toInt ≤ 9 by omega)
        have kf13 : Fr wX11_setDigit m (sm_w1 m 11 (x1).toNatClampNeg x2) := Fr.w Fr.refl rfl
        exact s_ret ⟨(show ((-1 : Int) ≤ (m.1 11 (x1).toNatClampNeg).toInt) ∧ ((m.1 11 (x1).toNatClampNeg).toInt ≤ 9) by omega), ki12, kf13⟩
      · have kc14 := Ln1
        exact s_ret ⟨(show ((-1 : Int) ≤ (-1 : Int32).toInt) ∧ ((-1 : Int32).toInt ≤ 9) by omega), hI, Fr.refl⟩
theorem zX11_setDigit_i1 (x1 : Int32) (x2 : Int32) (m : sm_S) (hI : zI m) : Sf (fun r => (((-1 : Int) ≤ r.1.toInt) ∧ (r.1.toInt ≤ 9)) ∧ zI r.2 ∧ Fr wX11_setDigit_i1 m r.2) (fX11_setDigit_i1 x1 x2 m) := by
  have hfu := fuE
  unfold fX11_setDigit_i1
  refine s_bd (zX2_hasHedge x1 m hI) (fun r2 kr1 => ?_)
  replace kr1 : (0 ≤ r2.toInt) ∧ (r2.toInt ≤ 1) ∧ ((r2.toInt = 0 ∧ (x1.toInt < 0 ∨ (m.1 3 1).toInt ≤ x1.toInt)) ∨ (r2.toInt = 1 ∧ 0 ≤ x1.toInt ∧ x1.toInt < (m.1 3 1).toInt)) := kr1
  have kc2 := L0
  have kc3 : 0 ≤ (m.1 3 1).toInt ∧ (m.1 3 1).toInt ≤ 14 := hI.1 3 1
  refine s_eq (fun kh4 => ?_) (fun kh4 => ?_)
  · have kc5 := Ln1
    exact s_ret ⟨(show ((-1 : Int) ≤ (-1 : Int32).toInt) ∧ ((-1 : Int32).toInt ≤ 9) by omega), hI, Fr.refl⟩
  · refine s_lt (fun kh6 => ?_) (fun kh6 => ?_)
    · have kc7 := Ln1
      exact s_ret ⟨(show ((-1 : Int) ≤ (-1 : Int32).toInt) ∧ ((-1 : Int32).toInt ≤ 9) by omega), hI, Fr.refl⟩
    · have kc8 := L9
      refine s_le (fun kh9 => ?_) (fun kh9 => ?_)
      · have kx10 : 0 ≤ (x1).toInt ∧ (x1).toInt < (14 : Int) := by omega
        refine s_ix kx10 ?_
        refine s_ix kx10 ?_
        have kc11 : 0 ≤ (m.1 12 (x1).toNatClampNeg).toInt ∧ (m.1 12 (x1).toNatClampNeg).toInt ≤ 9 := hI.1 12 (x1).toNatClampNeg
        have ki12 : zI (sm_w1 m 12 (x1).toNatClampNeg x2) := zI.w hI rfl (show 0 ≤ (x2).toInt ∧ (x2).toInt ≤ 9 by omega)
        have kf13 : Fr wX11_setDigit_i1 m (sm_w1 m 12 (x1).toNatClampNeg x2) := Fr.w Fr.refl rfl
        exact s_ret ⟨(show ((-1 : Int) ≤ (m.1 12 (x1).toNatClampNeg).toInt) ∧ ((m.1 12 (x1).toNatClampNeg).toInt ≤ 9) by omega), ki12, kf13⟩
      · have kc14 := Ln1
        exact s_ret ⟨(show ((-1 : Int) ≤ (-1 : Int32).toInt) ∧ ((-1 : Int32).toInt ≤ 9) by omega), hI, Fr.refl⟩
theorem zX11_setNights (x1 : Int32) (m : sm_S) (hI : zI m) : Sf (fun r => (((-1 : Int) ≤ r.1.toInt) ∧ (r.1.toInt ≤ 99)) ∧ zI r.2 ∧ Fr wX11_setNights m r.2) (fX11_setNights x1 m) := by
  have hfu := fuE
  unfold fX11_setNights
  have kc1 := L0
  refine s_lt (fun kh2 => ?_) (fun kh2 => ?_)
  · have kc3 := Ln1
    exact s_ret ⟨(show ((-1 : Int) ≤ (-1 : Int32).toInt) ∧ ((-1 : Int32).toInt ≤ 99) by omega), hI, Fr.refl⟩
  · have kc4 := L99
    refine s_le (fun kh5 => ?_) (fun kh5 => ?_)
    · have kc6 : 0 ≤ (m.1 3 2).toInt ∧ (m.1 3 2).toInt ≤ 99 := hI.1 3 2
      have ki7 : zI (sm_w1 m 3 2 x1) := zI.w hI rfl (show 0 ≤ (x1).toInt ∧ (x1).toInt ≤ 99 by omega)
      have kf8 : Fr wX11_setNights m (sm_w1 m 3 2 x1) := Fr.w Fr.refl rfl
      exact s_ret ⟨(show ((-1 : Int) ≤ (m.1 3 2).toInt) ∧ ((m.1 3 2).toInt ≤ 99) by omega), ki7, kf8⟩
    · have kc9 := Ln1
      exact s_ret ⟨(show ((-1 : Int) ≤ (-1 : Int32).toInt) ∧ ((-1 : Int32).toInt ≤ 99) by omega), hI, Fr.refl⟩
theorem zX11_setFrost (x1 : Int32) (m : sm_S) (hI : zI m) : Sf (fun r => (((-1 : Int) ≤ r.1.toInt) ∧ (r.1.toInt ≤ 9999)) ∧ zI r.2 ∧ Fr wX11_setFrost m r.2) (fX11_setFrost x1 m) := by
  have hfu := fuE
  unfold fX11_setFrost
  have kc1 := L0
  refine s_lt (fun kh2 => ?_) (fun kh2 => ?_)
  · have kc3 := Ln1
    exact s_ret ⟨(show ((-1 : Int) ≤ (-1 : Int32).toInt) ∧ ((-1 : Int32).toInt ≤ 9999) by omega), hI, Fr.refl⟩
  · have kc4 := L9999
    refine s_le (fun kh5 => ?_) (fun kh5 => ?_)
    · have kc6 : 0 ≤ (m.1 3 3).toInt ∧ (m.1 3 3).toInt ≤ 9999 := hI.1 3 3
      have ki7 : zI (sm_w1 m 3 3 x1) := zI.w hI rfl (show 0 ≤ (x1).toInt ∧ (x1).toInt ≤ 9999 by omega)
      have kf8 : Fr wX11_setFrost m (sm_w1 m 3 3 x1) := Fr.w Fr.refl rfl
      exact s_ret ⟨(show ((-1 : Int) ≤ (m.1 3 3).toInt) ∧ ((m.1 3 3).toInt ≤ 9999) by omega), ki7, kf8⟩
    · have kc9 := Ln1
      exact s_ret ⟨(show ((-1 : Int) ≤ (-1 : Int32).toInt) ∧ ((-1 : Int32).toInt ≤ 9999) by omega), hI, Fr.refl⟩
theorem zX11_set (x1 : Int32) (x2 : Int32) (x3 : Int32) (m : sm_S) (hI : zI m) : Sf (fun r => (((-1 : Int) ≤ r.1.toInt) ∧ (r.1.toInt ≤ 9999)) ∧ zI r.2 ∧ Fr wX11_set m r.2) (fX11_set x1 x2 x3 m) := by
  have hfu := fuE
  unfold fX11_set
  have kc1 := L0
  refine s_eq (fun kh2 => ?_) (fun kh2 => ?_)
  · refine s_bd (zX11_setDigit x2 x3 m hI) (fun r3 kr3 => ?_)
    obtain ⟨kp4, ki5, kf6⟩ := kr3
    replace kp4 : ((-1 : Int) ≤ r3.1.toInt) ∧ (r3.1.toInt ≤ 9) := kp4
    have kf7 : Fr wX11_set m r3.2 := Fr.trans Fr.refl kf6 rfl
    exact s_ret ⟨(show ((-1 : Int) ≤ r3.1.toInt) ∧ (r3.1.toInt ≤ 9999) by omega), ki5, kf7⟩
  · have kc8 := L1
    refine s_eq (fun kh9 => ?_) (fun kh9 => ?_)
    · refine s_bd (zX11_setDigit_i1 x2 x3 m hI) (fun r6 kr10 => ?_)
      obtain ⟨kp11, ki12, kf13⟩ := kr10
      replace kp11 : ((-1 : Int) ≤ r6.1.toInt) ∧ (r6.1.toInt ≤ 9) := kp11
      have kf14 : Fr wX11_set m r6.2 := Fr.trans Fr.refl kf13 rfl
      exact s_ret ⟨(show ((-1 : Int) ≤ r6.1.toInt) ∧ (r6.1.toInt ≤ 9999) by omega), ki12, kf14⟩
    · have kc15 := L2
      refine s_eq (fun kh16 => ?_) (fun kh16 => ?_)
      · refine s_bd (zX11_setNights x3 m hI) (fun r9 kr17 => ?_)
        obtain ⟨kp18, ki19, kf20⟩ := kr17
        replace kp18 : ((-1 : Int) ≤ r9.1.toInt) ∧ (r9.1.toInt ≤ 99) := kp18
        have kf21 : Fr wX11_set m r9.2 := Fr.trans Fr.refl kf20 rfl
        exact s_ret ⟨(show ((-1 : Int) ≤ r9.1.toInt) ∧ (r9.1.toInt ≤ 9999) by omega), ki19, kf21⟩
      · have kc22 := L3
        refine s_eq (fun kh23 => ?_) (fun kh23 => ?_)
        · refine s_bd (zX11_setFrost x3 m hI) (fun r12 kr24 => ?_)
          obtain ⟨kp25, ki26, kf27⟩ := kr24
          replace kp25 : ((-1 : Int) ≤ r12.1.toInt) ∧ (r12.1.toInt ≤ 9999) := kp25
          have kf28 : Fr wX11_set m r12.2 := Fr.trans Fr.refl kf27 rfl
          exact s_ret ⟨(show ((-1 : Int) ≤ r12.1.toInt) ∧ (r12.1.toInt ≤ 9999) by omega), ki26, kf28⟩
        · have kc29 := Ln1
          exact s_ret ⟨(show ((-1 : Int) ≤ (-1 : Int32).toInt) ∧ ((-1 : Int32).toInt ≤ 9999) by omega), hI, Fr.refl⟩
theorem zX11_sheetEntry (x1 : Int32) (x2 : Int32) (m : sm_S) (hp : 0 ≤ x1.toInt ∧ x1.toInt ≤ 3) (hI : zI m) : Sf (fun r => (1 ≤ r.toInt) ∧ (r.toInt ≤ 20)) (fX11_sheetEntry x1 x2 m) := by
  have hfu := fuE
  unfold fX11_sheetEntry
  have kc1 := L0
  refine s_eq (fun kh2 => ?_) (fun kh2 => ?_)
  · have kc3 := L1
    have kc4 := L20
    have kc5 : ((((x2).toInt8).toInt32).toInt < ((20 : Int32)).toInt ∧ (if ((x2).toInt8).toInt32 < (20 : Int32) then ((x2).toInt8).toInt32 else (20 : Int32)).toInt = (((x2).toInt8).toInt32).toInt) ∨ (((20 : Int32)).toInt ≤ (((x2).toInt8).toInt32).toInt ∧ (if ((x2).toInt8).toInt32 < (20 : Int32) then ((x2).toInt8).toInt32 else (20 : Int32)).toInt = ((20 : Int32)).toInt) := a_ilt
    have kc6 : (((1 : Int32)).toInt < ((if ((x2).toInt8).toInt32 < (20 : Int32) then ((x2).toInt8).toInt32 else (20 : Int32))).toInt ∧ (if (1 : Int32) < (if ((x2).toInt8).toInt32 < (20 : Int32) then ((x2).toInt8).toInt32 else (20 : Int32)) then (if ((x2).toInt8).toInt32 < (20 : Int32) then ((x2).toInt8).toInt32 else (20 : Int32)) else (1 : Int32)).toInt = ((if ((x2).toInt8).toInt32 < (20 : Int32) then ((x2).toInt8).toInt32 else (20 : Int32))).toInt) ∨ (((if ((x2).toInt8).toInt32 < (20 : Int32) then ((x2).toInt8).toInt32 else (20 : Int32))).toInt ≤ ((1 : Int32)).toInt ∧ (if (1 : Int32) < (if ((x2).toInt8).toInt32 < (20 : Int32) then ((x2).toInt8).toInt32 else (20 : Int32)) then (if ((x2).toInt8).toInt32 < (20 : Int32) then ((x2).toInt8).toInt32 else (20 : Int32)) else (1 : Int32)).toInt = ((1 : Int32)).toInt) := a_ilt
    exact s_ret (show (1 ≤ (if (1 : Int32) < (if ((x2).toInt8).toInt32 < (20 : Int32) then ((x2).toInt8).toInt32 else (20 : Int32)) then (if ((x2).toInt8).toInt32 < (20 : Int32) then ((x2).toInt8).toInt32 else (20 : Int32)) else (1 : Int32)).toInt) ∧ ((if (1 : Int32) < (if ((x2).toInt8).toInt32 < (20 : Int32) then ((x2).toInt8).toInt32 else (20 : Int32)) then (if ((x2).toInt8).toInt32 < (20 : Int32) then ((x2).toInt8).toInt32 else (20 : Int32)) else (1 : Int32)).toInt ≤ 20) by omega)
  · have kc7 := L1
    refine s_eq (fun kh8 => ?_) (fun kh8 => ?_)
    · have kc9 := L20
      have kc10 : ((((x2).toInt16).toInt32).toInt < ((20 : Int32)).toInt ∧ (if ((x2).toInt16).toInt32 < (20 : Int32) then ((x2).toInt16).toInt32 else (20 : Int32)).toInt = (((x2).toInt16).toInt32).toInt) ∨ (((20 : Int32)).toInt ≤ (((x2).toInt16).toInt32).toInt ∧ (if ((x2).toInt16).toInt32 < (20 : Int32) then ((x2).toInt16).toInt32 else (20 : Int32)).toInt = ((20 : Int32)).toInt) := a_ilt
      have kc11 : (((1 : Int32)).toInt < ((if ((x2).toInt16).toInt32 < (20 : Int32) then ((x2).toInt16).toInt32 else (20 : Int32))).toInt ∧ (if (1 : Int32) < (if ((x2).toInt16).toInt32 < (20 : Int32) then ((x2).toInt16).toInt32 else (20 : Int32)) then (if ((x2).toInt16).toInt32 < (20 : Int32) then ((x2).toInt16).toInt32 else (20 : Int32)) else (1 : Int32)).toInt = ((if ((x2).toInt16).toInt32 < (20 : Int32) then ((x2).toInt16).toInt32 else (20 : Int32))).toInt) ∨ (((if ((x2).toInt16).toInt32 < (20 : Int32) then ((x2).toInt16).toInt32 else (20 : Int32))).toInt ≤ ((1 : Int32)).toInt ∧ (if (1 : Int32) < (if ((x2).toInt16).toInt32 < (20 : Int32) then ((x2).toInt16).toInt32 else (20 : Int32)) then (if ((x2).toInt16).toInt32 < (20 : Int32) then ((x2).toInt16).toInt32 else (20 : Int32)) else (1 : Int32)).toInt = ((1 : Int32)).toInt) := a_ilt
      exact s_ret (show (1 ≤ (if (1 : Int32) < (if ((x2).toInt16).toInt32 < (20 : Int32) then ((x2).toInt16).toInt32 else (20 : Int32)) then (if ((x2).toInt16).toInt32 < (20 : Int32) then ((x2).toInt16).toInt32 else (20 : Int32)) else (1 : Int32)).toInt) ∧ ((if (1 : Int32) < (if ((x2).toInt16).toInt32 < (20 : Int32) then ((x2).toInt16).toInt32 else (20 : Int32)) then (if ((x2).toInt16).toInt32 < (20 : Int32) then ((x2).toInt16).toInt32 else (20 : Int32)) else (1 : Int32)).toInt ≤ 20) by omega)
    · have kc12 := L20
      have kc13 : ((x2).toInt < ((20 : Int32)).toInt ∧ (if x2 < (20 : Int32) then x2 else (20 : Int32)).toInt = (x2).toInt) ∨ (((20 : Int32)).toInt ≤ (x2).toInt ∧ (if x2 < (20 : Int32) then x2 else (20 : Int32)).toInt = ((20 : Int32)).toInt) := a_ilt
      have kc14 : (((1 : Int32)).toInt < ((if x2 < (20 : Int32) then x2 else (20 : Int32))).toInt ∧ (if (1 : Int32) < (if x2 < (20 : Int32) then x2 else (20 : Int32)) then (if x2 < (20 : Int32) then x2 else (20 : Int32)) else (1 : Int32)).toInt = ((if x2 < (20 : Int32) then x2 else (20 : Int32))).toInt) ∨ (((if x2 < (20 : Int32) then x2 else (20 : Int32))).toInt ≤ ((1 : Int32)).toInt ∧ (if (1 : Int32) < (if x2 < (20 : Int32) then x2 else (20 : Int32)) then (if x2 < (20 : Int32) then x2 else (20 : Int32)) else (1 : Int32)).toInt = ((1 : Int32)).toInt) := a_ilt
      exact s_ret (show (1 ≤ (if (1 : Int32) < (if x2 < (20 : Int32) then x2 else (20 : Int32)) then (if x2 < (20 : Int32) then x2 else (20 : Int32)) else (1 : Int32)).toInt) ∧ ((if (1 : Int32) < (if x2 < (20 : Int32) then x2 else (20 : Int32)) then (if x2 < (20 : Int32) then x2 else (20 : Int32)) else (1 : Int32)).toInt ≤ 20) by omega)
theorem zX11_sheet_47 (m0 : sm_S) : ∀ (n : Nat) (v1 : Int32) (v2 : Int32) (v3 : Int32) (v4 : Int32) (v5 : Int32) (v6 : Int32) (v7 : Int32) (m : sm_S), (0 ≤ v1.toInt ∧ v1.toInt ≤ 3 ∧ v2.toInt ≤ 14 ∧ 0 ≤ v5.toInt ∧ v5.toInt ≤ 1 ∧ 0 ≤ v7.toInt ∧ v7.toInt ≤ 14 ∧ 14 - v7.toInt < (n : Int)) → zI m → Fr wX11_sheet m0 m → Sf (fun r => (True) ∧ zI r.2 ∧ Fr wX11_sheet m0 r.2) (fX11_sheet_47 n v1 v2 v3 v4 v5 v6 v7 m) := by
  intro n
  induction n with
  | zero =>
    intro v1 v2 v3 v4 v5 v6 v7 m hp hI hF
    have krgv2 := rg v2
    exfalso
    omega
  | succ n ih =>
    intro v1 v2 v3 v4 v5 v6 v7 m hp hI hF
    have hnn : ((n + 1 : Nat) : Int) = (n : Int) + 1 := by omega
    have hfu := fuE
    have krgv2 := rg v2
    unfold fX11_sheet_47
    have kc1 : 0 ≤ (m.1 3 1).toInt ∧ (m.1 3 1).toInt ≤ 14 := hI.1 3 1
    refine s_le (fun kh2 => ?_) (fun kh2 => ?_)
    · have kc3 := L0
      refine s_eq (fun kh4 => ?_) (fun kh4 => ?_)
      · exact s_ret ⟨trivial, hI, hF⟩
      · have kc5 := Ln3
        exact s_ret ⟨trivial, hI, hF⟩
    · have kc6 := L0
      refine s_eq (fun kh7 => ?_) (fun kh7 => ?_)
      · refine s_le (fun kh8 => ?_) (fun kh8 => ?_)
        · have kx9 : 0 ≤ (v7).toInt ∧ (v7).toInt < (14 : Int) := by omega
          refine s_ix kx9 ?_
          refine s_ix kx9 ?_
          have kc10 := L1
          have ki11 : zI (sm_w1 m 8 (v7).toNatClampNeg (1 : Int32)) := zI.w hI rfl (show 0 ≤ ((1 : Int32)).toInt ∧ ((1 : Int32)).toInt ≤ 20 by omega)
          have kc12 : 0 ≤ ((sm_w1 m 8 (v7).toNatClampNeg (1 : Int32)).1 8 (v7).toNatClampNeg).toInt ∧ ((sm_w1 m 8 (v7).toNatClampNeg (1 : Int32)).1 8 (v7).toNatClampNeg).toInt ≤ 20 := ki11.1 8 (v7).toNatClampNeg
          have kc13 : ((sm_w1 m 8 (v7).toNatClampNeg (1 : Int32)).1 8 (v7).toNatClampNeg).toInt = ((1 : Int32)).toInt := congrArg Int32.toInt r_hit
          have kc14 : (v7 + (1 : Int32)).toInt = (v7).toInt + 1 := a_addl L1 (by omega) (by omega)
          have kf15 : Fr wX11_sheet m0 (sm_w1 m 8 (v7).toNatClampNeg (1 : Int32)) := Fr.w hF rfl
          exact ih v1 v2 v3 v4 v5 (v6 + ((sm_w1 m 8 (v7).toNatClampNeg (1 : Int32)).1 8 (v7).toNatClampNeg)) (v7 + (1 : Int32)) (sm_w1 m 8 (v7).toNatClampNeg (1 : Int32)) (show 0 ≤ v1.toInt ∧ v1.toInt ≤ 3 ∧ v2.toInt ≤ 14 ∧ 0 ≤ v5.toInt ∧ v5.toInt ≤ 1 ∧ 0 ≤ (v7 + (1 : Int32)).toInt ∧ (v7 + (1 : Int32)).toInt ≤ 14 ∧ 14 - (v7 + (1 : Int32)).toInt < (n : Int) by omega) ki11 kf15
        · refine s_bd (zX11_sheetEntry v1 (v3 + (v7 * v4)) m (show 0 ≤ v1.toInt ∧ v1.toInt ≤ 3 by omega) hI) (fun r6 kr16 => ?_)
          replace kr16 : (1 ≤ r6.toInt) ∧ (r6.toInt ≤ 20) := kr16
          have kx17 : 0 ≤ (v7).toInt ∧ (v7).toInt < (14 : Int) := by omega
          refine s_ix kx17 ?_
          refine s_ix kx17 ?_
          have ki18 : zI (sm_w1 m 8 (v7).toNatClampNeg r6) := zI.w hI rfl (show 0 ≤ (r6).toInt ∧ (r6).toInt ≤ 20 by omega)
          have kc19 : 0 ≤ ((sm_w1 m 8 (v7).toNatClampNeg r6).1 8 (v7).toNatClampNeg).toInt ∧ ((sm_w1 m 8 (v7).toNatClampNeg r6).1 8 (v7).toNatClampNeg).toInt ≤ 20 := ki18.1 8 (v7).toNatClampNeg
          have kc20 : ((sm_w1 m 8 (v7).toNatClampNeg r6).1 8 (v7).toNatClampNeg).toInt = (r6).toInt := congrArg Int32.toInt r_hit
          have kc21 : (v7 + (1 : Int32)).toInt = (v7).toInt + 1 := a_addl L1 (by omega) (by omega)
          have kf22 : Fr wX11_sheet m0 (sm_w1 m 8 (v7).toNatClampNeg r6) := Fr.w hF rfl
          exact ih v1 v2 v3 v4 v5 (v6 + ((sm_w1 m 8 (v7).toNatClampNeg r6).1 8 (v7).toNatClampNeg)) (v7 + (1 : Int32)) (sm_w1 m 8 (v7).toNatClampNeg r6) (show 0 ≤ v1.toInt ∧ v1.toInt ≤ 3 ∧ v2.toInt ≤ 14 ∧ 0 ≤ v5.toInt ∧ v5.toInt ≤ 1 ∧ 0 ≤ (v7 + (1 : Int32)).toInt ∧ (v7 + (1 : Int32)).toInt ≤ 14 ∧ 14 - (v7 + (1 : Int32)).toInt < (n : Int) by omega) ki18 kf22
      · have kx23 : 0 ≤ (v7).toInt ∧ (v7).toInt < (14 : Int) := by omega
        refine s_ix kx23 ?_
        refine s_ix kx23 ?_
        have kc24 := L1
        have ki25 : zI (sm_w1 m 8 (v7).toNatClampNeg (1 : Int32)) := zI.w hI rfl (show 0 ≤ ((1 : Int32)).toInt ∧ ((1 : Int32)).toInt ≤ 20 by omega)
        have kc26 : 0 ≤ ((sm_w1 m 8 (v7).toNatClampNeg (1 : Int32)).1 8 (v7).toNatClampNeg).toInt ∧ ((sm_w1 m 8 (v7).toNatClampNeg (1 : Int32)).1 8 (v7).toNatClampNeg).toInt ≤ 20 := ki25.1 8 (v7).toNatClampNeg
        have kc27 : ((sm_w1 m 8 (v7).toNatClampNeg (1 : Int32)).1 8 (v7).toNatClampNeg).toInt = ((1 : Int32)).toInt := congrArg Int32.toInt r_hit
        have kc28 : (v7 + (1 : Int32)).toInt = (v7).toInt + 1 := a_addl L1 (by omega) (by omega)
        have kf29 : Fr wX11_sheet m0 (sm_w1 m 8 (v7).toNatClampNeg (1 : Int32)) := Fr.w hF rfl
        exact ih v1 v2 v3 v4 v5 (v6 + ((sm_w1 m 8 (v7).toNatClampNeg (1 : Int32)).1 8 (v7).toNatClampNeg)) (v7 + (1 : Int32)) (sm_w1 m 8 (v7).toNatClampNeg (1 : Int32)) (show 0 ≤ v1.toInt ∧ v1.toInt ≤ 3 ∧ v2.toInt ≤ 14 ∧ 0 ≤ v5.toInt ∧ v5.toInt ≤ 1 ∧ 0 ≤ (v7 + (1 : Int32)).toInt ∧ (v7 + (1 : Int32)).toInt ≤ 14 ∧ 14 - (v7 + (1 : Int32)).toInt < (n : Int) by omega) ki25 kf29
theorem zX11_sheet (x1 : Int32) (x2 : Int32) (x3 : Int32) (x4 : Int32) (m : sm_S) (hI : zI m) : Sf (fun r => (True) ∧ zI r.2 ∧ Fr wX11_sheet m r.2) (fX11_sheet x1 x2 x3 x4 m) := by
  have hfu := fuE
  unfold fX11_sheet
  have kc1 := L0
  refine s_lt (fun kh2 => ?_) (fun kh2 => ?_)
  · have kc3 := Ln1
    exact s_ret ⟨trivial, hI, Fr.refl⟩
  · have kc4 := L3
    refine s_lt (fun kh5 => ?_) (fun kh5 => ?_)
    · have kc6 := Ln1
      exact s_ret ⟨trivial, hI, Fr.refl⟩
    · have kc7 := L14
      refine s_le (fun kh8 => ?_) (fun kh8 => ?_)
      · refine s_eq (fun kh9 => ?_) (fun kh9 => ?_)
        · have kc10 := L1
          exact zX11_sheet_47 m sm_fu x1 x2 x3 x4 (1 : Int32) (0 : Int32) (0 : Int32) m (show 0 ≤ x1.toInt ∧ x1.toInt ≤ 3 ∧ x2.toInt ≤ 14 ∧ 0 ≤ (1 : Int32).toInt ∧ (1 : Int32).toInt ≤ 1 ∧ 0 ≤ (0 : Int32).toInt ∧ (0 : Int32).toInt ≤ 14 ∧ 14 - (0 : Int32).toInt < (sm_fu : Int) by omega) hI Fr.refl
        · refine s_le (fun kh11 => ?_) (fun kh11 => ?_)
          · exact zX11_sheet_47 m sm_fu x1 x2 x3 x4 (0 : Int32) (0 : Int32) (0 : Int32) m (show 0 ≤ x1.toInt ∧ x1.toInt ≤ 3 ∧ x2.toInt ≤ 14 ∧ 0 ≤ (0 : Int32).toInt ∧ (0 : Int32).toInt ≤ 1 ∧ 0 ≤ (0 : Int32).toInt ∧ (0 : Int32).toInt ≤ 14 ∧ 14 - (0 : Int32).toInt < (sm_fu : Int) by omega) hI Fr.refl
          · have kc12 := Ln2
            exact s_ret ⟨trivial, hI, Fr.refl⟩
      · have kc13 := Ln1
        exact s_ret ⟨trivial, hI, Fr.refl⟩
theorem zX2_touches (x1 : Int32) (x2 : Int32) (m : sm_S) (hp : 0 ≤ x1.toInt ∧ x1.toInt ≤ 13 ∧ 0 ≤ x2.toInt ∧ x2.toInt ≤ 15) (hI : zI m) : Sf (fun r => (0 ≤ r.toInt) ∧ (r.toInt ≤ 1)) (fX2_touches x1 x2 m) := by
  have hfu := fuE
  unfold fX2_touches
  have kx1 : 0 ≤ (x1).toInt ∧ (x1).toInt < (14 : Int) := by omega
  refine s_ix kx1 ?_
  have kc2 : 0 ≤ (m.1 6 (x1).toNatClampNeg).toInt ∧ (m.1 6 (x1).toNatClampNeg).toInt ≤ 9 := hI.1 6 (x1).toNatClampNeg
  refine s_eq (fun kh3 => ?_) (fun kh3 => ?_)
  · have kc4 := L1
    exact s_ret (show (0 ≤ (1 : Int32).toInt) ∧ ((1 : Int32).toInt ≤ 1) by omega)
  · refine s_ix kx1 ?_
    have kc5 : 0 ≤ (m.1 7 (x1).toNatClampNeg).toInt ∧ (m.1 7 (x1).toNatClampNeg).toInt ≤ 9 := hI.1 7 (x1).toNatClampNeg
    refine s_eq (fun kh6 => ?_) (fun kh6 => ?_)
    · have kc7 := L1
      exact s_ret (show (0 ≤ (1 : Int32).toInt) ∧ ((1 : Int32).toInt ≤ 1) by omega)
    · have kc8 := L0
      exact s_ret (show (0 ≤ (0 : Int32).toInt) ∧ ((0 : Int32).toInt ≤ 1) by omega)
theorem zX2_minutesFrom (x1 : Int32) (x2 : Int32) (m : sm_S) (hp : 0 ≤ x1.toInt ∧ x1.toInt ≤ 13 ∧ 0 ≤ x2.toInt ∧ x2.toInt ≤ 15) (hI : zI m) : Sf (fun r => (0 ≤ r.toInt) ∧ (r.toInt ≤ 29)) (fX2_minutesFrom x1 x2 m) := by
  have hfu := fuE
  unfold fX2_minutesFrom
  have kx1 : 0 ≤ (x1).toInt ∧ (x1).toInt < (14 : Int) := by omega
  refine s_ix kx1 ?_
  have kc2 : 0 ≤ (m.1 6 (x1).toNatClampNeg).toInt ∧ (m.1 6 (x1).toNatClampNeg).toInt ≤ 9 := hI.1 6 (x1).toNatClampNeg
  refine s_eq (fun kh3 => ?_) (fun kh3 => ?_)
  · refine s_ix kx1 ?_
    have kc4 : 0 ≤ (m.1 8 (x1).toNatClampNeg).toInt ∧ (m.1 8 (x1).toNatClampNeg).toInt ≤ 20 := hI.1 8 (x1).toNatClampNeg
    exact s_ret (show (0 ≤ (m.1 8 (x1).toNatClampNeg).toInt) ∧ ((m.1 8 (x1).toNatClampNeg).toInt ≤ 29) by omega)
  · refine s_ix kx1 ?_
    refine s_ix kx1 ?_
    have kc5 : 0 ≤ (m.1 8 (x1).toNatClampNeg).toInt ∧ (m.1 8 (x1).toNatClampNeg).toInt ≤ 20 := hI.1 8 (x1).toNatClampNeg
    have kc6 : 0 ≤ (m.1 12 (x1).toNatClampNeg).toInt ∧ (m.1 12 (x1).toNatClampNeg).toInt ≤ 9 := hI.1 12 (x1).toNatClampNeg
    have kc7 : ((m.1 8 (x1).toNatClampNeg) + (m.1 12 (x1).toNatClampNeg)).toInt = ((m.1 8 (x1).toNatClampNeg)).toInt + ((m.1 12 (x1).toNatClampNeg)).toInt := a_add (by omega) (by omega)
    exact s_ret (show (0 ≤ ((m.1 8 (x1).toNatClampNeg) + (m.1 12 (x1).toNatClampNeg)).toInt) ∧ (((m.1 8 (x1).toNatClampNeg) + (m.1 12 (x1).toNatClampNeg)).toInt ≤ 29) by omega)
theorem zX6_isLight (m : sm_S) (hI : zI m) : Sf (fun r => (0 ≤ r.toInt) ∧ (r.toInt ≤ 1)) (fX6_isLight m) := by
  have hfu := fuE
  unfold fX6_isLight
  have kc1 := L40
  have kc2 := L60
  refine s_le (fun kh3 => ?_) (fun kh3 => ?_)
  · have kc4 := L0
    exact s_ret (show (0 ≤ (0 : Int32).toInt) ∧ ((0 : Int32).toInt ≤ 1) by omega)
  · have kc5 := L1
    exact s_ret (show (0 ≤ (1 : Int32).toInt) ∧ ((1 : Int32).toInt ≤ 1) by omega)
theorem zX6_whyNot (x1 : Int32) (m : sm_S) (hp : 0 ≤ x1.toInt ∧ x1.toInt ≤ 13) (hI : zI m) : Sf (fun r => ((-5 : Int) ≤ r.toInt) ∧ (r.toInt ≤ 0)) (fX6_whyNot x1 m) := by
  have hfu := fuE
  unfold fX6_whyNot
  have kc1 : 0 ≤ (m.1 16 0).toInt ∧ (m.1 16 0).toInt ≤ 9 := hI.1 16 0
  refine s_bd (zX2_touches x1 (m.1 16 0) m (show 0 ≤ x1.toInt ∧ x1.toInt ≤ 13 ∧ 0 ≤ (m.1 16 0).toInt ∧ (m.1 16 0).toInt ≤ 15 by omega) hI) (fun r2 kr2 => ?_)
  replace kr2 : (0 ≤ r2.toInt) ∧ (r2.toInt ≤ 1) := kr2
  have kc3 := L0
  refine s_eq (fun kh4 => ?_) (fun kh4 => ?_)
  · have kc5 := Ln2
    exact s_ret (show ((-5 : Int) ≤ (-2 : Int32).toInt) ∧ ((-2 : Int32).toInt ≤ 0) by omega)
  · refine s_bd (zX6_isFresh x1 m (show 0 ≤ x1.toInt ∧ x1.toInt ≤ 13 by omega) hI) (fun r4 kr6 => ?_)
    replace kr6 : (0 ≤ r4.toInt) ∧ (r4.toInt ≤ 1) := kr6
    refine s_eq (fun kh7 => ?_) (fun kh7 => ?_)
    · have kc8 := Ln3
      exact s_ret (show ((-5 : Int) ≤ (-3 : Int32).toInt) ∧ ((-3 : Int32).toInt ≤ 0) by omega)
    · have kx9 : 0 ≤ (x1).toInt ∧ (x1).toInt < (14 : Int) := by omega
      refine s_ix kx9 ?_
      have kc10 : 0 ≤ (m.1 13 (x1).toNatClampNeg).toInt ∧ (m.1 13 (x1).toNatClampNeg).toInt ≤ 1 := hI.1 13 (x1).toNatClampNeg
      refine s_eq (fun kh11 => ?_) (fun kh11 => ?_)
      · refine s_bd (zX2_minutesFrom x1 (m.1 16 0) m (show 0 ≤ x1.toInt ∧ x1.toInt ≤ 13 ∧ 0 ≤ (m.1 16 0).toInt ∧ (m.1 16 0).toInt ≤ 15 by omega) hI) (fun r7 kr12 => ?_)
        replace kr12 : (0 ≤ r7.toInt) ∧ (r7.toInt ≤ 29) := kr12
        have kc13 : 0 ≤ (m.1 3 3).toInt ∧ (m.1 3 3).toInt ≤ 9999 := hI.1 3 3
        refine s_le (fun kh14 => ?_) (fun kh14 => ?_)
        · exact s_ret (show ((-5 : Int) ≤ (0 : Int32).toInt) ∧ ((0 : Int32).toInt ≤ 0) by omega)
        · have kc15 := Ln5
          exact s_ret (show ((-5 : Int) ≤ (-5 : Int32).toInt) ∧ ((-5 : Int32).toInt ≤ 0) by omega)
      · refine s_bd (zX6_isLight m hI) (fun r9 kr16 => ?_)
        replace kr16 : (0 ≤ r9.toInt) ∧ (r9.toInt ≤ 1) := kr16
        refine s_eq (fun kh17 => ?_) (fun kh17 => ?_)
        · have kc18 := Ln4
          exact s_ret (show ((-5 : Int) ≤ (-4 : Int32).toInt) ∧ ((-4 : Int32).toInt ≤ 0) by omega)
        · refine s_bd (zX2_minutesFrom x1 (m.1 16 0) m (show 0 ≤ x1.toInt ∧ x1.toInt ≤ 13 ∧ 0 ≤ (m.1 16 0).toInt ∧ (m.1 16 0).toInt ≤ 15 by omega) hI) (fun r11 kr19 => ?_)
          replace kr19 : (0 ≤ r11.toInt) ∧ (r11.toInt ≤ 29) := kr19
          have kc20 : 0 ≤ (m.1 3 3).toInt ∧ (m.1 3 3).toInt ≤ 9999 := hI.1 3 3
          refine s_le (fun kh21 => ?_) (fun kh21 => ?_)
          · exact s_ret (show ((-5 : Int) ≤ (0 : Int32).toInt) ∧ ((0 : Int32).toInt ≤ 0) by omega)
          · have kc22 := Ln5
            exact s_ret (show ((-5 : Int) ≤ (-5 : Int32).toInt) ∧ ((-5 : Int32).toInt ≤ 0) by omega)
theorem zX7_remember (x1 : Int32) (m : sm_S) (hp : 0 ≤ x1.toInt ∧ x1.toInt ≤ 13) (hI : zI m) : Sf (fun r => (True) ∧ zI r ∧ Fr wX7_remember m r) (fX7_remember x1 m) := by
  have hfu := fuE
  unfold fX7_remember
  have kc1 : 0 ≤ (m.1 20 1).toInt ∧ (m.1 20 1).toInt ≤ 29 := hI.1 20 1
  have kx2 : 0 ≤ ((m.1 20 1)).toInt ∧ ((m.1 20 1)).toInt < (30 : Int) := by omega
  refine s_ix kx2 ?_
  refine s_ix kx2 ?_
  refine s_ix kx2 ?_
  have kx3 : 0 ≤ (x1).toInt ∧ (x1).toInt < (14 : Int) := by omega
  refine s_ix kx3 ?_
  refine s_ix kx2 ?_
  have ki4 : zI (sm_w1 m 21 ((m.1 20 1)).toNatClampNeg x1) := zI.w hI rfl (show 0 ≤ (x1).toInt ∧ (x1).toInt ≤ 13 by omega)
  have kc5 : 0 ≤ (m.1 16 0).toInt ∧ (m.1 16 0).toInt ≤ 9 := hI.1 16 0
  have ki6 : zI (sm_w1 (sm_w1 m 21 ((m.1 20 1)).toNatClampNeg x1) 22 ((m.1 20 1)).toNatClampNeg (m.1 16 0)) := zI.w ki4 rfl (show 0 ≤ ((m.1 16 0)).toInt ∧ ((m.1 16 0)).toInt ≤ 9 by omega)
  have ki7 : zI (sm_w1 (sm_w1 (sm_w1 m 21 ((m.1 20 1)).toNatClampNeg x1) 22 ((m.1 20 1)).toNatClampNeg (m.1 16 0)) 23 ((m.1 20 1)).toNatClampNeg (m.1 16 1)) := zI.w ki6 rfl (rg _)
  have ki8 : zI (sm_w1 (sm_w1 (sm_w1 (sm_w1 m 21 ((m.1 20 1)).toNatClampNeg x1) 22 ((m.1 20 1)).toNatClampNeg (m.1 16 0)) 23 ((m.1 20 1)).toNatClampNeg (m.1 16 1)) 24 ((m.1 20 1)).toNatClampNeg (m.1 17 (x1).toNatClampNeg)) := zI.w ki7 rfl (rg _)
  have kc9 : ((m.1 20 1) + (1 : Int32)).toInt = ((m.1 20 1)).toInt + 1 := a_addl L1 (by omega) (by omega)
  have kc10 := L30
  have kc11 : (((m.1 20 1) + (1 : Int32)) / (30 : Int32)).toInt = (((m.1 20 1) + (1 : Int32))).toInt / 30 := (a_div (by omega) (by omega)).trans (congrArg (fun z => (((m.1 20 1) + (1 : Int32))).toInt / z) L30)
  have kc12 : ((((m.1 20 1) + (1 : Int32)) / (30 : Int32)) * (30 : Int32)).toInt = ((((m.1 20 1) + (1 : Int32)) / (30 : Int32))).toInt * 30 := a_mul rfl L30 (by omega) (by omega)
  have kc13 : (((m.1 20 1) + (1 : Int32)) - ((((m.1 20 1) + (1 : Int32)) / (30 : Int32)) * (30 : Int32))).toInt = (((m.1 20 1) + (1 : Int32))).toInt - (((((m.1 20 1) + (1 : Int32)) / (30 : Int32)) * (30 : Int32))).toInt := a_sub (by omega) (by omega)
  have ki14 : zI (sm_w1 (sm_w1 (sm_w1 (sm_w1 (sm_w1 m 21 ((m.1 20 1)).toNatClampNeg x1) 22 ((m.1 20 1)).toNatClampNeg (m.1 16 0)) 23 ((m.1 20 1)).toNatClampNeg (m.1 16 1)) 24 ((m.1 20 1)).toNatClampNeg (m.1 17 (x1).toNatClampNeg)) 20 1 (((m.1 20 1) + (1 : Int32)) - ((((m.1 20 1) + (1 : Int32)) / (30 : Int32)) * (30 : Int32)))) := zI.w ki8 rfl (show 0 ≤ ((((m.1 20 1) + (1 : Int32)) - ((((m.1 20 1) + (1 : Int32)) / (30 : Int32)) * (30 : Int32)))).toInt ∧ ((((m.1 20 1) + (1 : Int32)) - ((((m.1 20 1) + (1 : Int32)) / (30 : Int32)) * (30 : Int32)))).toInt ≤ 29 by omega)
  have kc15 : 0 ≤ (m.1 20 0).toInt ∧ (m.1 20 0).toInt ≤ 30 := hI.1 20 0
  have kc16 : ((m.1 20 0) + (1 : Int32)).toInt = ((m.1 20 0)).toInt + 1 := a_addl L1 (by omega) (by omega)
  have kc17 : (((30 : Int32)).toInt < (((m.1 20 0) + (1 : Int32))).toInt ∧ (if (30 : Int32) < ((m.1 20 0) + (1 : Int32)) then (30 : Int32) else ((m.1 20 0) + (1 : Int32))).toInt = ((30 : Int32)).toInt) ∨ ((((m.1 20 0) + (1 : Int32))).toInt ≤ ((30 : Int32)).toInt ∧ (if (30 : Int32) < ((m.1 20 0) + (1 : Int32)) then (30 : Int32) else ((m.1 20 0) + (1 : Int32))).toInt = (((m.1 20 0) + (1 : Int32))).toInt) := a_ilt
  have ki18 : zI (sm_w1 (sm_w1 (sm_w1 (sm_w1 (sm_w1 (sm_w1 m 21 ((m.1 20 1)).toNatClampNeg x1) 22 ((m.1 20 1)).toNatClampNeg (m.1 16 0)) 23 ((m.1 20 1)).toNatClampNeg (m.1 16 1)) 24 ((m.1 20 1)).toNatClampNeg (m.1 17 (x1).toNatClampNeg)) 20 1 (((m.1 20 1) + (1 : Int32)) - ((((m.1 20 1) + (1 : Int32)) / (30 : Int32)) * (30 : Int32)))) 20 0 (if (30 : Int32) < ((m.1 20 0) + (1 : Int32)) then (30 : Int32) else ((m.1 20 0) + (1 : Int32)))) := zI.w ki14 rfl (show 0 ≤ ((if (30 : Int32) < ((m.1 20 0) + (1 : Int32)) then (30 : Int32) else ((m.1 20 0) + (1 : Int32)))).toInt ∧ ((if (30 : Int32) < ((m.1 20 0) + (1 : Int32)) then (30 : Int32) else ((m.1 20 0) + (1 : Int32)))).toInt ≤ 30 by omega)
  have kf19 : Fr wX7_remember m (sm_w1 m 21 ((m.1 20 1)).toNatClampNeg x1) := Fr.w Fr.refl rfl
  have kf20 : Fr wX7_remember m (sm_w1 (sm_w1 m 21 ((m.1 20 1)).toNatClampNeg x1) 22 ((m.1 20 1)).toNatClampNeg (m.1 16 0)) := Fr.w kf19 rfl
  have kf21 : Fr wX7_remember m (sm_w1 (sm_w1 (sm_w1 m 21 ((m.1 20 1)).toNatClampNeg x1) 22 ((m.1 20 1)).toNatClampNeg (m.1 16 0)) 23 ((m.1 20 1)).toNatClampNeg (m.1 16 1)) := Fr.w kf20 rfl
  have kf22 : Fr wX7_remember m (sm_w1 (sm_w1 (sm_w1 (sm_w1 m 21 ((m.1 20 1)).toNatClampNeg x1) 22 ((m.1 20 1)).toNatClampNeg (m.1 16 0)) 23 ((m.1 20 1)).toNatClampNeg (m.1 16 1)) 24 ((m.1 20 1)).toNatClampNeg (m.1 17 (x1).toNatClampNeg)) := Fr.w kf21 rfl
  have kf23 : Fr wX7_remember m (sm_w1 (sm_w1 (sm_w1 (sm_w1 (sm_w1 m 21 ((m.1 20 1)).toNatClampNeg x1) 22 ((m.1 20 1)).toNatClampNeg (m.1 16 0)) 23 ((m.1 20 1)).toNatClampNeg (m.1 16 1)) 24 ((m.1 20 1)).toNatClampNeg (m.1 17 (x1).toNatClampNeg)) 20 1 (((m.1 20 1) + (1 : Int32)) - ((((m.1 20 1) + (1 : Int32)) / (30 : Int32)) * (30 : Int32)))) := Fr.w kf22 rfl
  have kf24 : Fr wX7_remember m (sm_w1 (sm_w1 (sm_w1 (sm_w1 (sm_w1 (sm_w1 m 21 ((m.1 20 1)).toNatClampNeg x1) 22 ((m.1 20 1)).toNatClampNeg (m.1 16 0)) 23 ((m.1 20 1)).toNatClampNeg (m.1 16 1)) 24 ((m.1 20 1)).toNatClampNeg (m.1 17 (x1).toNatClampNeg)) 20 1 (((m.1 20 1) + (1 : Int32)) - ((((m.1 20 1) + (1 : Int32)) / (30 : Int32)) * (30 : Int32)))) 20 0 (if (30 : Int32) < ((m.1 20 0) + (1 : Int32)) then (30 : Int32) else ((m.1 20 0) + (1 : Int32)))) := Fr.w kf23 rfl
  exact s_ret ⟨trivial, ki18, kf24⟩
theorem zX2_otherEnd (x1 : Int32) (x2 : Int32) (m : sm_S) (hp : 0 ≤ x1.toInt ∧ x1.toInt ≤ 13 ∧ 0 ≤ x2.toInt ∧ x2.toInt ≤ 15) (hI : zI m) : Sf (fun r => (0 ≤ r.toInt) ∧ (r.toInt ≤ 9)) (fX2_otherEnd x1 x2 m) := by
  have hfu := fuE
  unfold fX2_otherEnd
  have kx1 : 0 ≤ (x1).toInt ∧ (x1).toInt < (14 : Int) := by omega
  refine s_ix kx1 ?_
  have kc2 : 0 ≤ (m.1 6 (x1).toNatClampNeg).toInt ∧ (m.1 6 (x1).toNatClampNeg).toInt ≤ 9 := hI.1 6 (x1).toNatClampNeg
  refine s_eq (fun kh3 => ?_) (fun kh3 => ?_)
  · refine s_ix kx1 ?_
    have kc4 : 0 ≤ (m.1 7 (x1).toNatClampNeg).toInt ∧ (m.1 7 (x1).toNatClampNeg).toInt ≤ 9 := hI.1 7 (x1).toNatClampNeg
    exact s_ret (show (0 ≤ (m.1 7 (x1).toNatClampNeg).toInt) ∧ ((m.1 7 (x1).toNatClampNeg).toInt ≤ 9) by omega)
  · refine s_ix kx1 ?_
    exact s_ret (show (0 ≤ (m.1 6 (x1).toNatClampNeg).toInt) ∧ ((m.1 6 (x1).toNatClampNeg).toInt ≤ 9) by omega)
theorem zX6_step (x1 : Int32) (m : sm_S) (hp : 0 ≤ x1.toInt ∧ x1.toInt ≤ 13) (hI : zI m) : Sf (fun r => ((0 ≤ r.1.toInt) ∧ (r.1.toInt ≤ 29)) ∧ zI r.2 ∧ Fr wX6_step m r.2) (fX6_step x1 m) := by
  have hfu := fuE
  unfold fX6_step
  have kc1 : 0 ≤ (m.1 16 0).toInt ∧ (m.1 16 0).toInt ≤ 9 := hI.1 16 0
  refine s_bd (zX2_minutesFrom x1 (m.1 16 0) m (show 0 ≤ x1.toInt ∧ x1.toInt ≤ 13 ∧ 0 ≤ (m.1 16 0).toInt ∧ (m.1 16 0).toInt ≤ 15 by omega) hI) (fun r2 kr2 => ?_)
  replace kr2 : (0 ≤ r2.toInt) ∧ (r2.toInt ≤ 29) := kr2
  refine s_bd (zX6_day m hI) (fun r4 kr3 => ?_)
  have kx4 : 0 ≤ (x1).toInt ∧ (x1).toInt < (14 : Int) := by omega
  refine s_ix kx4 ?_
  have ki5 : zI (sm_w1 m 17 (x1).toNatClampNeg r4) := zI.w hI rfl (rg _)
  have ki6 : zI (sm_w1 (sm_w1 m 17 (x1).toNatClampNeg r4) 16 1 ((m.1 16 1) + r2)) := zI.w ki5 rfl (rg _)
  refine s_bd (zX2_otherEnd x1 (m.1 16 0) (sm_w1 (sm_w1 m 17 (x1).toNatClampNeg r4) 16 1 ((m.1 16 1) + r2)) (show 0 ≤ x1.toInt ∧ x1.toInt ≤ 13 ∧ 0 ≤ (m.1 16 0).toInt ∧ (m.1 16 0).toInt ≤ 15 by omega) ki6) (fun r7 kr7 => ?_)
  replace kr7 : (0 ≤ r7.toInt) ∧ (r7.toInt ≤ 9) := kr7
  have ki8 : zI (sm_w1 (sm_w1 (sm_w1 m 17 (x1).toNatClampNeg r4) 16 1 ((m.1 16 1) + r2)) 16 0 r7) := zI.w ki6 rfl (show 0 ≤ (r7).toInt ∧ (r7).toInt ≤ 9 by omega)
  have kf9 : Fr wX6_step m (sm_w1 m 17 (x1).toNatClampNeg r4) := Fr.w Fr.refl rfl
  have kf10 : Fr wX6_step m (sm_w1 (sm_w1 m 17 (x1).toNatClampNeg r4) 16 1 ((m.1 16 1) + r2)) := Fr.w kf9 rfl
  have kf11 : Fr wX6_step m (sm_w1 (sm_w1 (sm_w1 m 17 (x1).toNatClampNeg r4) 16 1 ((m.1 16 1) + r2)) 16 0 r7) := Fr.w kf10 rfl
  exact s_ret ⟨(show (0 ≤ r2.toInt) ∧ (r2.toInt ≤ 29) by omega), ki8, kf11⟩
theorem zX11_walk (x1 : Int32) (m : sm_S) (hI : zI m) : Sf (fun r => (((-5 : Int) ≤ r.1.toInt) ∧ (r.1.toInt ≤ 29)) ∧ zI r.2 ∧ Fr wX11_walk m r.2) (fX11_walk x1 m) := by
  have hfu := fuE
  unfold fX11_walk
  refine s_bd (zX2_hasHedge x1 m hI) (fun r2 kr1 => ?_)
  replace kr1 : (0 ≤ r2.toInt) ∧ (r2.toInt ≤ 1) ∧ ((r2.toInt = 0 ∧ (x1.toInt < 0 ∨ (m.1 3 1).toInt ≤ x1.toInt)) ∨ (r2.toInt = 1 ∧ 0 ≤ x1.toInt ∧ x1.toInt < (m.1 3 1).toInt)) := kr1
  have kc2 := L0
  have kc3 : 0 ≤ (m.1 3 1).toInt ∧ (m.1 3 1).toInt ≤ 14 := hI.1 3 1
  refine s_eq (fun kh4 => ?_) (fun kh4 => ?_)
  · have kc5 := Ln1
    exact s_ret ⟨(show ((-5 : Int) ≤ (-1 : Int32).toInt) ∧ ((-1 : Int32).toInt ≤ 29) by omega), hI, Fr.refl⟩
  · refine s_bd (zX6_whyNot x1 m (show 0 ≤ x1.toInt ∧ x1.toInt ≤ 13 by omega) hI) (fun r4 kr6 => ?_)
    replace kr6 : ((-5 : Int) ≤ r4.toInt) ∧ (r4.toInt ≤ 0) := kr6
    refine s_eq (fun kh7 => ?_) (fun kh7 => ?_)
    · refine s_bd (zX7_remember x1 m (show 0 ≤ x1.toInt ∧ x1.toInt ≤ 13 by omega) hI) (fun m6 kr8 => ?_)
      obtain ⟨kp9, ki10, kf11⟩ := kr8
      refine s_bd (zX6_step x1 m6 (show 0 ≤ x1.toInt ∧ x1.toInt ≤ 13 by omega) ki10) (fun r8 kr12 => ?_)
      obtain ⟨kp13, ki14, kf15⟩ := kr12
      replace kp13 : (0 ≤ r8.1.toInt) ∧ (r8.1.toInt ≤ 29) := kp13
      have kf16 : Fr wX11_walk m m6 := Fr.trans Fr.refl kf11 rfl
      have kf17 : Fr wX11_walk m r8.2 := Fr.trans kf16 kf15 rfl
      exact s_ret ⟨(show ((-5 : Int) ≤ r8.1.toInt) ∧ (r8.1.toInt ≤ 29) by omega), ki14, kf17⟩
    · exact s_ret ⟨(show ((-5 : Int) ≤ r4.toInt) ∧ (r4.toInt ≤ 29) by omega), hI, Fr.refl⟩
theorem zX11_rest (x1 : Int32) (m : sm_S) (hI : zI m) : Sf (fun r => ((r.1.toInt ≤ 9999)) ∧ zI r.2 ∧ Fr wX11_rest m r.2) (fX11_rest x1 m) := by
  have hfu := fuE
  unfold fX11_rest
  have kc1 := L0
  refine s_lt (fun kh2 => ?_) (fun kh2 => ?_)
  · have kc3 := Ln1
    exact s_ret ⟨(show ((-1 : Int32).toInt ≤ 9999) by omega), hI, Fr.refl⟩
  · have kc4 := L9999
    refine s_le (fun kh5 => ?_) (fun kh5 => ?_)
    · have kc6 : 0 ≤ (m.1 3 3).toInt ∧ (m.1 3 3).toInt ≤ 9999 := hI.1 3 3
      refine s_le (fun kh7 => ?_) (fun kh7 => ?_)
      · have ki8 : zI (sm_w1 m 16 1 ((m.1 16 1) + x1)) := zI.w hI rfl (rg _)
        have ki9 : zI (sm_w1 (sm_w1 m 16 1 ((m.1 16 1) + x1)) 20 0 (0 : Int32)) := zI.w ki8 rfl (show 0 ≤ ((0 : Int32)).toInt ∧ ((0 : Int32)).toInt ≤ 30 by omega)
        have kf10 : Fr wX11_rest m (sm_w1 m 16 1 ((m.1 16 1) + x1)) := Fr.w Fr.refl rfl
        have kf11 : Fr wX11_rest m (sm_w1 (sm_w1 m 16 1 ((m.1 16 1) + x1)) 20 0 (0 : Int32)) := Fr.w kf10 rfl
        exact s_ret ⟨(show (((m.1 16 1) + x1).toInt ≤ 9999) by omega), ki9, kf11⟩
      · have kc12 := Ln5
        exact s_ret ⟨(show ((-5 : Int32).toInt ≤ 9999) by omega), hI, Fr.refl⟩
    · have kc13 := Ln1
      exact s_ret ⟨(show ((-1 : Int32).toInt ≤ 9999) by omega), hI, Fr.refl⟩
theorem zX7_takeBack (m : sm_S) (hI : zI m) : Sf (fun r => ((0 ≤ r.1.toInt) ∧ (r.1.toInt ≤ 1)) ∧ zI r.2 ∧ Fr wX7_takeBack m r.2) (fX7_takeBack m) := by
  have hfu := fuE
  unfold fX7_takeBack
  have kc1 : 0 ≤ (m.1 20 0).toInt ∧ (m.1 20 0).toInt ≤ 30 := hI.1 20 0
  have kc2 := L0
  refine s_eq (fun kh3 => ?_) (fun kh3 => ?_)
  · exact s_ret ⟨(show (0 ≤ (0 : Int32).toInt) ∧ ((0 : Int32).toInt ≤ 1) by omega), hI, Fr.refl⟩
  · have kc4 : 0 ≤ (m.1 20 1).toInt ∧ (m.1 20 1).toInt ≤ 29 := hI.1 20 1
    have kc5 : ((m.1 20 1) + (30 : Int32)).toInt = ((m.1 20 1)).toInt + 30 := a_addl L30 (by omega) (by omega)
    have kc6 : (((m.1 20 1) + (30 : Int32)) - (1 : Int32)).toInt = (((m.1 20 1) + (30 : Int32))).toInt - 1 := a_subl L1 (by omega) (by omega)
    have kc7 := L30
    have kc8 : ((((m.1 20 1) + (30 : Int32)) - (1 : Int32)) / (30 : Int32)).toInt = ((((m.1 20 1) + (30 : Int32)) - (1 : Int32))).toInt / 30 := (a_div (by omega) (by omega)).trans (congrArg (fun z => ((((m.1 20 1) + (30 : Int32)) - (1 : Int32))).toInt / z) L30)
    have kc9 : (((((m.1 20 1) + (30 : Int32)) - (1 : Int32)) / (30 : Int32)) * (30 : Int32)).toInt = (((((m.1 20 1) + (30 : Int32)) - (1 : Int32)) / (30 : Int32))).toInt * 30 := a_mul rfl L30 (by omega) (by omega)
    have kc10 : ((((m.1 20 1) + (30 : Int32)) - (1 : Int32)) - (((((m.1 20 1) + (30 : Int32)) - (1 : Int32)) / (30 : Int32)) * (30 : Int32))).toInt = ((((m.1 20 1) + (30 : Int32)) - (1 : Int32))).toInt - ((((((m.1 20 1) + (30 : Int32)) - (1 : Int32)) / (30 : Int32)) * (30 : Int32))).toInt := a_sub (by omega) (by omega)
    have kx11 : 0 ≤ (((((m.1 20 1) + (30 : Int32)) - (1 : Int32)) - (((((m.1 20 1) + (30 : Int32)) - (1 : Int32)) / (30 : Int32)) * (30 : Int32)))).toInt ∧ (((((m.1 20 1) + (30 : Int32)) - (1 : Int32)) - (((((m.1 20 1) + (30 : Int32)) - (1 : Int32)) / (30 : Int32)) * (30 : Int32)))).toInt < (30 : Int) := by omega
    refine s_ix kx11 ?_
    refine s_ix kx11 ?_
    refine s_ix kx11 ?_
    refine s_ix kx11 ?_
    have kc12 : 0 ≤ (m.1 21 (((((m.1 20 1) + (30 : Int32)) - (1 : Int32)) - (((((m.1 20 1) + (30 : Int32)) - (1 : Int32)) / (30 : Int32)) * (30 : Int32)))).toNatClampNeg).toInt ∧ (m.1 21 (((((m.1 20 1) + (30 : Int32)) - (1 : Int32)) - (((((m.1 20 1) + (30 : Int32)) - (1 : Int32)) / (30 : Int32)) * (30 : Int32)))).toNatClampNeg).toInt ≤ 13 := hI.1 21 (((((m.1 20 1) + (30 : Int32)) - (1 : Int32)) - (((((m.1 20 1) + (30 : Int32)) - (1 : Int32)) / (30 : Int32)) * (30 : Int32)))).toNatClampNeg
    have kx13 : 0 ≤ ((m.1 21 (((((m.1 20 1) + (30 : Int32)) - (1 : Int32)) - (((((m.1 20 1) + (30 : Int32)) - (1 : Int32)) / (30 : Int32)) * (30 : Int32)))).toNatClampNeg)).toInt ∧ ((m.1 21 (((((m.1 20 1) + (30 : Int32)) - (1 : Int32)) - (((((m.1 20 1) + (30 : Int32)) - (1 : Int32)) / (30 : Int32)) * (30 : Int32)))).toNatClampNeg)).toInt < (14 : Int) := by omega
    refine s_ix kx13 ?_
    have kc14 := L1
    have ki15 : zI (sm_w1 m 20 1 ((((m.1 20 1) + (30 : Int32)) - (1 : Int32)) - (((((m.1 20 1) + (30 : Int32)) - (1 : Int32)) / (30 : Int32)) * (30 : Int32)))) := zI.w hI rfl (show 0 ≤ (((((m.1 20 1) + (30 : Int32)) - (1 : Int32)) - (((((m.1 20 1) + (30 : Int32)) - (1 : Int32)) / (30 : Int32)) * (30 : Int32)))).toInt ∧ (((((m.1 20 1) + (30 : Int32)) - (1 : Int32)) - (((((m.1 20 1) + (30 : Int32)) - (1 : Int32)) / (30 : Int32)) * (30 : Int32)))).toInt ≤ 29 by omega)
    have kc16 : ((m.1 20 0) - (1 : Int32)).toInt = ((m.1 20 0)).toInt - 1 := a_subl L1 (by omega) (by omega)
    have ki17 : zI (sm_w1 (sm_w1 m 20 1 ((((m.1 20 1) + (30 : Int32)) - (1 : Int32)) - (((((m.1 20 1) + (30 : Int32)) - (1 : Int32)) / (30 : Int32)) * (30 : Int32)))) 20 0 ((m.1 20 0) - (1 : Int32))) := zI.w ki15 rfl (show 0 ≤ (((m.1 20 0) - (1 : Int32))).toInt ∧ (((m.1 20 0) - (1 : Int32))).toInt ≤ 30 by omega)
    have kc18 : 0 ≤ (m.1 22 (((((m.1 20 1) + (30 : Int32)) - (1 : Int32)) - (((((m.1 20 1) + (30 : Int32)) - (1 : Int32)) / (30 : Int32)) * (30 : Int32)))).toNatClampNeg).toInt ∧ (m.1 22 (((((m.1 20 1) + (30 : Int32)) - (1 : Int32)) - (((((m.1 20 1) + (30 : Int32)) - (1 : Int32)) / (30 : Int32)) * (30 : Int32)))).toNatClampNeg).toInt ≤ 9 := hI.1 22 (((((m.1 20 1) + (30 : Int32)) - (1 : Int32)) - (((((m.1 20 1) + (30 : Int32)) - (1 : Int32)) / (30 : Int32)) * (30 : Int32)))).toNatClampNeg
    have ki19 : zI (sm_w1 (sm_w1 (sm_w1 m 20 1 ((((m.1 20 1) + (30 : Int32)) - (1 : Int32)) - (((((m.1 20 1) + (30 : Int32)) - (1 : Int32)) / (30 : Int32)) * (30 : Int32)))) 20 0 ((m.1 20 0) - (1 : Int32))) 16 0 (m.1 22 (((((m.1 20 1) + (30 : Int32)) - (1 : Int32)) - (((((m.1 20 1) + (30 : Int32)) - (1 : Int32)) / (30 : Int32)) * (30 : Int32)))).toNatClampNeg)) := zI.w ki17 rfl (show 0 ≤ ((m.1 22 (((((m.1 20 1) + (30 : Int32)) - (1 : Int32)) - (((((m.1 20 1) + (30 : Int32)) - (1 : Int32)) / (30 : Int32)) * (30 : Int32)))).toNatClampNeg)).toInt ∧ ((m.1 22 (((((m.1 20 1) + (30 : Int32)) - (1 : Int32)) - (((((m.1 20 1) + (30 : Int32)) - (1 : Int32)) / (30 : Int32)) * (30 : Int32)))).toNatClampNeg)).toInt ≤ 9 by omega)
    have ki20 : zI (sm_w1 (sm_w1 (sm_w1 (sm_w1 m 20 1 ((((m.1 20 1) + (30 : Int32)) - (1 : Int32)) - (((((m.1 20 1) + (30 : Int32)) - (1 : Int32)) / (30 : Int32)) * (30 : Int32)))) 20 0 ((m.1 20 0) - (1 : Int32))) 16 0 (m.1 22 (((((m.1 20 1) + (30 : Int32)) - (1 : Int32)) - (((((m.1 20 1) + (30 : Int32)) - (1 : Int32)) / (30 : Int32)) * (30 : Int32)))).toNatClampNeg)) 16 1 (m.1 23 (((((m.1 20 1) + (30 : Int32)) - (1 : Int32)) - (((((m.1 20 1) + (30 : Int32)) - (1 : Int32)) / (30 : Int32)) * (30 : Int32)))).toNatClampNeg)) := zI.w ki19 rfl (rg _)
    have ki21 : zI (sm_w1 (sm_w1 (sm_w1 (sm_w1 (sm_w1 m 20 1 ((((m.1 20 1) + (30 : Int32)) - (1 : Int32)) - (((((m.1 20 1) + (30 : Int32)) - (1 : Int32)) / (30 : Int32)) * (30 : Int32)))) 20 0 ((m.1 20 0) - (1 : Int32))) 16 0 (m.1 22 (((((m.1 20 1) + (30 : Int32)) - (1 : Int32)) - (((((m.1 20 1) + (30 : Int32)) - (1 : Int32)) / (30 : Int32)) * (30 : Int32)))).toNatClampNeg)) 16 1 (m.1 23 (((((m.1 20 1) + (30 : Int32)) - (1 : Int32)) - (((((m.1 20 1) + (30 : Int32)) - (1 : Int32)) / (30 : Int32)) * (30 : Int32)))).toNatClampNeg)) 17 ((m.1 21 (((((m.1 20 1) + (30 : Int32)) - (1 : Int32)) - (((((m.1 20 1) + (30 : Int32)) - (1 : Int32)) / (30 : Int32)) * (30 : Int32)))).toNatClampNeg)).toNatClampNeg (m.1 24 (((((m.1 20 1) + (30 : Int32)) - (1 : Int32)) - (((((m.1 20 1) + (30 : Int32)) - (1 : Int32)) / (30 : Int32)) * (30 : Int32)))).toNatClampNeg)) := zI.w ki20 rfl (rg _)
    have kf22 : Fr wX7_takeBack m (sm_w1 m 20 1 ((((m.1 20 1) + (30 : Int32)) - (1 : Int32)) - (((((m.1 20 1) + (30 : Int32)) - (1 : Int32)) / (30 : Int32)) * (30 : Int32)))) := Fr.w Fr.refl rfl
    have kf23 : Fr wX7_takeBack m (sm_w1 (sm_w1 m 20 1 ((((m.1 20 1) + (30 : Int32)) - (1 : Int32)) - (((((m.1 20 1) + (30 : Int32)) - (1 : Int32)) / (30 : Int32)) * (30 : Int32)))) 20 0 ((m.1 20 0) - (1 : Int32))) := Fr.w kf22 rfl
    have kf24 : Fr wX7_takeBack m (sm_w1 (sm_w1 (sm_w1 m 20 1 ((((m.1 20 1) + (30 : Int32)) - (1 : Int32)) - (((((m.1 20 1) + (30 : Int32)) - (1 : Int32)) / (30 : Int32)) * (30 : Int32)))) 20 0 ((m.1 20 0) - (1 : Int32))) 16 0 (m.1 22 (((((m.1 20 1) + (30 : Int32)) - (1 : Int32)) - (((((m.1 20 1) + (30 : Int32)) - (1 : Int32)) / (30 : Int32)) * (30 : Int32)))).toNatClampNeg)) := Fr.w kf23 rfl
    have kf25 : Fr wX7_takeBack m (sm_w1 (sm_w1 (sm_w1 (sm_w1 m 20 1 ((((m.1 20 1) + (30 : Int32)) - (1 : Int32)) - (((((m.1 20 1) + (30 : Int32)) - (1 : Int32)) / (30 : Int32)) * (30 : Int32)))) 20 0 ((m.1 20 0) - (1 : Int32))) 16 0 (m.1 22 (((((m.1 20 1) + (30 : Int32)) - (1 : Int32)) - (((((m.1 20 1) + (30 : Int32)) - (1 : Int32)) / (30 : Int32)) * (30 : Int32)))).toNatClampNeg)) 16 1 (m.1 23 (((((m.1 20 1) + (30 : Int32)) - (1 : Int32)) - (((((m.1 20 1) + (30 : Int32)) - (1 : Int32)) / (30 : Int32)) * (30 : Int32)))).toNatClampNeg)) := Fr.w kf24 rfl
    have kf26 : Fr wX7_takeBack m (sm_w1 (sm_w1 (sm_w1 (sm_w1 (sm_w1 m 20 1 ((((m.1 20 1) + (30 : Int32)) - (1 : Int32)) - (((((m.1 20 1) + (30 : Int32)) - (1 : Int32)) / (30 : Int32)) * (30 : Int32)))) 20 0 ((m.1 20 0) - (1 : Int32))) 16 0 (m.1 22 (((((m.1 20 1) + (30 : Int32)) - (1 : Int32)) - (((((m.1 20 1) + (30 : Int32)) - (1 : Int32)) / (30 : Int32)) * (30 : Int32)))).toNatClampNeg)) 16 1 (m.1 23 (((((m.1 20 1) + (30 : Int32)) - (1 : Int32)) - (((((m.1 20 1) + (30 : Int32)) - (1 : Int32)) / (30 : Int32)) * (30 : Int32)))).toNatClampNeg)) 17 ((m.1 21 (((((m.1 20 1) + (30 : Int32)) - (1 : Int32)) - (((((m.1 20 1) + (30 : Int32)) - (1 : Int32)) / (30 : Int32)) * (30 : Int32)))).toNatClampNeg)).toNatClampNeg (m.1 24 (((((m.1 20 1) + (30 : Int32)) - (1 : Int32)) - (((((m.1 20 1) + (30 : Int32)) - (1 : Int32)) / (30 : Int32)) * (30 : Int32)))).toNatClampNeg)) := Fr.w kf25 rfl
    exact s_ret ⟨(show (0 ≤ (1 : Int32).toInt) ∧ ((1 : Int32).toInt ≤ 1) by omega), ki21, kf26⟩
theorem zX11_undo (m : sm_S) (hI : zI m) : Sf (fun r => (((-1 : Int) ≤ r.1.toInt) ∧ (r.1.toInt ≤ 30)) ∧ zI r.2 ∧ Fr wX11_undo m r.2) (fX11_undo m) := by
  have hfu := fuE
  unfold fX11_undo
  refine s_bd (zX7_takeBack m hI) (fun r2 kr1 => ?_)
  obtain ⟨kp2, ki3, kf4⟩ := kr1
  replace kp2 : (0 ≤ r2.1.toInt) ∧ (r2.1.toInt ≤ 1) := kp2
  have kc5 := L0
  refine s_eq (fun kh6 => ?_) (fun kh6 => ?_)
  · have kc7 := Ln1
    have kf8 : Fr wX11_undo m r2.2 := Fr.trans Fr.refl kf4 rfl
    exact s_ret ⟨(show ((-1 : Int) ≤ (-1 : Int32).toInt) ∧ ((-1 : Int32).toInt ≤ 30) by omega), ki3, kf8⟩
  · have kc9 : 0 ≤ (r2.2.1 20 0).toInt ∧ (r2.2.1 20 0).toInt ≤ 30 := ki3.1 20 0
    have kf10 : Fr wX11_undo m r2.2 := Fr.trans Fr.refl kf4 rfl
    exact s_ret ⟨(show ((-1 : Int) ≤ (r2.2.1 20 0).toInt) ∧ ((r2.2.1 20 0).toInt ≤ 30) by omega), ki3, kf10⟩
theorem zX6_beginAt_12 (m0 : sm_S) : ∀ (n : Nat) (v2 : Int32) (m : sm_S), (0 ≤ v2.toInt ∧ v2.toInt ≤ 14 ∧ 14 - v2.toInt < (n : Int)) → zI m → Fr wX6_beginAt m0 m → Sf (fun r => (True) ∧ zI r ∧ Fr wX6_beginAt m0 r) (fX6_beginAt_12 n v2 m) := by
  intro n
  induction n with
  | zero =>
    intro v2 m hp hI hF
    exfalso
    omega
  | succ n ih =>
    intro v2 m hp hI hF
    have hnn : ((n + 1 : Nat) : Int) = (n : Int) + 1 := by omega
    have hfu := fuE
    unfold fX6_beginAt_12
    have kc1 := L14
    refine s_le (fun kh2 => ?_) (fun kh2 => ?_)
    · exact s_ret ⟨trivial, hI, hF⟩
    · have kx3 : 0 ≤ (v2).toInt ∧ (v2).toInt < (14 : Int) := by omega
      refine s_ix kx3 ?_
      have kc4 : (v2 + (1 : Int32)).toInt = (v2).toInt + 1 := a_addl L1 (by omega) (by omega)
      have kc5 := Ln1
      have ki6 : zI (sm_w1 m 17 (v2).toNatClampNeg (-1 : Int32)) := zI.w hI rfl (rg _)
      have kf7 : Fr wX6_beginAt m0 (sm_w1 m 17 (v2).toNatClampNeg (-1 : Int32)) := Fr.w hF rfl
      exact ih (v2 + (1 : Int32)) (sm_w1 m 17 (v2).toNatClampNeg (-1 : Int32)) (show 0 ≤ (v2 + (1 : Int32)).toInt ∧ (v2 + (1 : Int32)).toInt ≤ 14 ∧ 14 - (v2 + (1 : Int32)).toInt < (n : Int) by omega) ki6 kf7
theorem zX6_beginAt (x1 : Int32) (m : sm_S) (hp : 0 ≤ x1.toInt ∧ x1.toInt ≤ 9) (hI : zI m) : Sf (fun r => (True) ∧ zI r ∧ Fr wX6_beginAt m r) (fX6_beginAt x1 m) := by
  have hfu := fuE
  unfold fX6_beginAt
  have kc1 := L0
  have ki2 : zI (sm_w1 m 16 0 x1) := zI.w hI rfl (show 0 ≤ (x1).toInt ∧ (x1).toInt ≤ 9 by omega)
  have ki3 : zI (sm_w1 (sm_w1 m 16 0 x1) 16 1 (0 : Int32)) := zI.w ki2 rfl (rg _)
  have kf4 : Fr wX6_beginAt m (sm_w1 m 16 0 x1) := Fr.w Fr.refl rfl
  have kf5 : Fr wX6_beginAt m (sm_w1 (sm_w1 m 16 0 x1) 16 1 (0 : Int32)) := Fr.w kf4 rfl
  exact zX6_beginAt_12 m sm_fu (0 : Int32) (sm_w1 (sm_w1 m 16 0 x1) 16 1 (0 : Int32)) (show 0 ≤ (0 : Int32).toInt ∧ (0 : Int32).toInt ≤ 14 ∧ 14 - (0 : Int32).toInt < (sm_fu : Int) by omega) ki3 kf5
theorem zX11_go (x1 : Int32) (m : sm_S) (hI : zI m) : Sf (fun r => ((0 ≤ r.1.toInt) ∧ (r.1.toInt ≤ 1)) ∧ zI r.2 ∧ Fr wX11_go m r.2) (fX11_go x1 m) := by
  have hfu := fuE
  unfold fX11_go
  refine s_bd (zX2_hasCorner x1 m hI) (fun r2 kr1 => ?_)
  replace kr1 : (0 ≤ r2.toInt) ∧ (r2.toInt ≤ 1) ∧ ((r2.toInt = 0 ∧ (x1.toInt < 0 ∨ (m.1 3 0).toInt ≤ x1.toInt)) ∨ (r2.toInt = 1 ∧ 0 ≤ x1.toInt ∧ x1.toInt < (m.1 3 0).toInt)) := kr1
  have kc2 := L0
  have kc3 : 0 ≤ (m.1 3 0).toInt ∧ (m.1 3 0).toInt ≤ 10 := hI.1 3 0
  refine s_eq (fun kh4 => ?_) (fun kh4 => ?_)
  · exact s_ret ⟨(show (0 ≤ (0 : Int32).toInt) ∧ ((0 : Int32).toInt ≤ 1) by omega), hI, Fr.refl⟩
  · refine s_bd (zX6_beginAt x1 m (show 0 ≤ x1.toInt ∧ x1.toInt ≤ 9 by omega) hI) (fun m4 kr5 => ?_)
    obtain ⟨kp6, ki7, kf8⟩ := kr5
    have kc9 := L1
    have ki10 : zI (sm_w1 m4 20 0 (0 : Int32)) := zI.w ki7 rfl (show 0 ≤ ((0 : Int32)).toInt ∧ ((0 : Int32)).toInt ≤ 30 by omega)
    have kf11 : Fr wX11_go m m4 := Fr.trans Fr.refl kf8 rfl
    have kf12 : Fr wX11_go m (sm_w1 m4 20 0 (0 : Int32)) := Fr.w kf11 rfl
    exact s_ret ⟨(show (0 ≤ (1 : Int32).toInt) ∧ ((1 : Int32).toInt ≤ 1) by omega), ki10, kf12⟩
theorem zX11_can_4 : ∀ (n : Nat) (v1 : Int32) (v2 : Int32) (m : sm_S), (0 ≤ v1.toInt ∧ v1.toInt ≤ 16383 ∧ 0 ≤ v2.toInt ∧ v2.toInt ≤ 14 ∧ 14 - v2.toInt < (n : Int)) → zI m → Sf (fun r => (0 ≤ r.toInt) ∧ (r.toInt ≤ 16383)) (fX11_can_4 n v1 v2 m) := by
  intro n
  induction n with
  | zero =>
    intro v1 v2 m hp hI
    exfalso
    omega
  | succ n ih =>
    intro v1 v2 m hp hI
    have hnn : ((n + 1 : Nat) : Int) = (n : Int) + 1 := by omega
    have hfu := fuE
    unfold fX11_can_4
    have kc1 : 0 ≤ (m.1 3 1).toInt ∧ (m.1 3 1).toInt ≤ 14 := hI.1 3 1
    refine s_le (fun kh2 => ?_) (fun kh2 => ?_)
    · exact s_ret (show (0 ≤ v1.toInt) ∧ (v1.toInt ≤ 16383) by omega)
    · refine s_bd (zX6_whyNot v2 m (show 0 ≤ v2.toInt ∧ v2.toInt ≤ 13 by omega) hI) (fun r2 kr3 => ?_)
      replace kr3 : ((-5 : Int) ≤ r2.toInt) ∧ (r2.toInt ≤ 0) := kr3
      have kc4 := L0
      refine s_eq (fun kh5 => ?_) (fun kh5 => ?_)
      · have kc6 := L1
        have kc7 := L31
        have kc8 : 0 ≤ (v2 &&& (31 : Int32)).toInt ∧ (v2 &&& (31 : Int32)).toInt ≤ ((31 : Int32)).toInt := a_andr (by omega)
        have kc9 : 0 ≤ (v2 &&& (31 : Int32)).toInt ∧ (v2 &&& (31 : Int32)).toInt ≤ (v2).toInt := a_andl (by omega)
        have kc10 : 1 ≤ ((1 : Int32) <<< (v2 &&& (31 : Int32))).toInt ∧ ((1 : Int32) <<< (v2 &&& (31 : Int32))).toInt ≤ 8192 := a_shl 13 (by decide) (by decide) (by omega) (by omega)
        have kc11 : 0 ≤ (v1 ||| ((1 : Int32) <<< (v2 &&& (31 : Int32)))).toInt ∧ (v1 ||| ((1 : Int32) <<< (v2 &&& (31 : Int32)))).toInt < 16384 := a_or 14 (by decide) (by decide) (by omega) (by omega) (by omega) (by omega)
        have kc12 : (v2 + (1 : Int32)).toInt = (v2).toInt + 1 := a_addl L1 (by omega) (by omega)
        exact ih (v1 ||| ((1 : Int32) <<< (v2 &&& (31 : Int32)))) (v2 + (1 : Int32)) m (show 0 ≤ (v1 ||| ((1 : Int32) <<< (v2 &&& (31 : Int32)))).toInt ∧ (v1 ||| ((1 : Int32) <<< (v2 &&& (31 : Int32)))).toInt ≤ 16383 ∧ 0 ≤ (v2 + (1 : Int32)).toInt ∧ (v2 + (1 : Int32)).toInt ≤ 14 ∧ 14 - (v2 + (1 : Int32)).toInt < (n : Int) by omega) hI
      · have kc13 : (v2 + (1 : Int32)).toInt = (v2).toInt + 1 := a_addl L1 (by omega) (by omega)
        exact ih v1 (v2 + (1 : Int32)) m (show 0 ≤ v1.toInt ∧ v1.toInt ≤ 16383 ∧ 0 ≤ (v2 + (1 : Int32)).toInt ∧ (v2 + (1 : Int32)).toInt ≤ 14 ∧ 14 - (v2 + (1 : Int32)).toInt < (n : Int) by omega) hI
