theorem zX12_putsBy (x1 : Int32) (m : sm_S) (hp : 0 ≤ x1.toInt ∧ x1.toInt ≤ 13 ∧ x1.toInt < (m.1 72 6).toInt) (hI : zI m) : Sf (fun r => (True) ∧ zI r ∧ Fr wX12_putsBy m r) (fX12_putsBy x1 m) := by
  have hfu := fuE
  have kc1 : 0 ≤ (m.1 72 6).toInt ∧ (m.1 72 6).toInt ≤ 14 := hI.1 72 6
  have kc2 : 0 ≤ (m.1 72 25).toInt ∧ (m.1 72 25).toInt ≤ 14 := hI.1 72 25
  have kc3 := zI.le hI
  unfold fX12_putsBy
  have kc4 : 0 ≤ (m.1 72 27).toInt ∧ (m.1 72 27).toInt ≤ 30 := hI.1 72 27
  have kc5 := L30
  refine s_eq (fun kh6 => ?_) (fun kh6 => ?_)
  · have kc7 := L1
    exact zX12_putsBy_11 m sm_fu x1 (1 : Int32) m (show 0 ≤ x1.toInt ∧ x1.toInt ≤ 13 ∧ 1 ≤ (1 : Int32).toInt ∧ (1 : Int32).toInt ≤ 30 ∧ x1.toInt < (m.1 72 6).toInt ∧ 30 - (1 : Int32).toInt < (sm_fu : Int) ∧ (m.1 72 27).toInt = 30 by omega) hI Fr.refl
  · have kx8 : 0 ≤ ((m.1 72 27)).toInt ∧ ((m.1 72 27)).toInt < (30 : Int) := by omega
    refine s_ix kx8 ?_
    refine s_ix kx8 ?_
    refine s_ix kx8 ?_
    have kx9 : 0 ≤ (x1).toInt ∧ (x1).toInt < (14 : Int) := by omega
    refine s_ix kx9 ?_
    refine s_ix kx8 ?_
    have ki10 : zI (sm_w1 m 85 ((m.1 72 27)).toNatClampNeg x1) := zI.w hI rfl (show 0 ≤ (x1).toInt ∧ (x1).toInt ≤ 13 by omega)
    have kc11 : 0 ≤ (m.1 72 17).toInt ∧ (m.1 72 17).toInt ≤ 9 := hI.1 72 17
    have ki12 : zI (sm_w1 (sm_w1 m 85 ((m.1 72 27)).toNatClampNeg x1) 86 ((m.1 72 27)).toNatClampNeg (m.1 72 17)) := zI.w ki10 rfl (show 0 ≤ ((m.1 72 17)).toInt ∧ ((m.1 72 17)).toInt ≤ 9 by omega)
    have kc13 : 0 ≤ (m.1 72 18).toInt ∧ (m.1 72 18).toInt ≤ 9999 := hI.1 72 18
    have ki14 : zI (sm_w1 (sm_w1 (sm_w1 m 85 ((m.1 72 27)).toNatClampNeg x1) 86 ((m.1 72 27)).toNatClampNeg (m.1 72 17)) 87 ((m.1 72 27)).toNatClampNeg (m.1 72 18)) := zI.w ki12 rfl (show 0 ≤ ((m.1 72 18)).toInt ∧ ((m.1 72 18)).toInt ≤ 9999 by omega)
    have ki15 : zI (sm_w1 (sm_w1 (sm_w1 (sm_w1 m 85 ((m.1 72 27)).toNatClampNeg x1) 86 ((m.1 72 27)).toNatClampNeg (m.1 72 17)) 87 ((m.1 72 27)).toNatClampNeg (m.1 72 18)) 88 ((m.1 72 27)).toNatClampNeg (m.1 83 (x1).toNatClampNeg)) := zI.w ki14 rfl (rg _)
    have kc16 : ((m.1 72 27) + (1 : Int32)).toInt = ((m.1 72 27)).toInt + 1 := a_addl L1 (by omega) (by omega)
    have ki17 : zI (sm_w1 (sm_w1 (sm_w1 (sm_w1 (sm_w1 m 85 ((m.1 72 27)).toNatClampNeg x1) 86 ((m.1 72 27)).toNatClampNeg (m.1 72 17)) 87 ((m.1 72 27)).toNatClampNeg (m.1 72 18)) 88 ((m.1 72 27)).toNatClampNeg (m.1 83 (x1).toNatClampNeg)) 72 27 ((m.1 72 27) + (1 : Int32))) := zI.w ki15 rfl (show 0 ≤ (((m.1 72 27) + (1 : Int32))).toInt ∧ (((m.1 72 27) + (1 : Int32))).toInt ≤ 30 by omega)
    have kf18 : Fr wX12_putsBy m (sm_w1 m 85 ((m.1 72 27)).toNatClampNeg x1) := Fr.w Fr.refl rfl
    have kf19 : Fr wX12_putsBy m (sm_w1 (sm_w1 m 85 ((m.1 72 27)).toNatClampNeg x1) 86 ((m.1 72 27)).toNatClampNeg (m.1 72 17)) := Fr.w kf18 rfl
    have kf20 : Fr wX12_putsBy m (sm_w1 (sm_w1 (sm_w1 m 85 ((m.1 72 27)).toNatClampNeg x1) 86 ((m.1 72 27)).toNatClampNeg (m.1 72 17)) 87 ((m.1 72 27)).toNatClampNeg (m.1 72 18)) := Fr.w kf19 rfl
    have kf21 : Fr wX12_putsBy m (sm_w1 (sm_w1 (sm_w1 (sm_w1 m 85 ((m.1 72 27)).toNatClampNeg x1) 86 ((m.1 72 27)).toNatClampNeg (m.1 72 17)) 87 ((m.1 72 27)).toNatClampNeg (m.1 72 18)) 88 ((m.1 72 27)).toNatClampNeg (m.1 83 (x1).toNatClampNeg)) := Fr.w kf20 rfl
    have kf22 : Fr wX12_putsBy m (sm_w1 (sm_w1 (sm_w1 (sm_w1 (sm_w1 m 85 ((m.1 72 27)).toNatClampNeg x1) 86 ((m.1 72 27)).toNatClampNeg (m.1 72 17)) 87 ((m.1 72 27)).toNatClampNeg (m.1 72 18)) 88 ((m.1 72 27)).toNatClampNeg (m.1 83 (x1).toNatClampNeg)) 72 27 ((m.1 72 27) + (1 : Int32))) := Fr.w kf21 rfl
    exact s_ret ⟨trivial, ki17, kf22⟩
theorem zX12_endOf (x1 : Int32) (x2 : Int32) (m : sm_S) (hp : 0 ≤ x1.toInt ∧ x1.toInt ≤ 13 ∧ (-1 : Int) ≤ x2.toInt ∧ x2.toInt ≤ 9 ∧ x1.toInt < (m.1 72 6).toInt) (hI : zI m) : Sf (fun r => (0 ≤ r.toInt) ∧ (r.toInt ≤ 9)) (fX12_endOf x1 x2 m) := by
  have hfu := fuE
  have kc1 : 0 ≤ (m.1 72 6).toInt ∧ (m.1 72 6).toInt ≤ 14 := hI.1 72 6
  have kc2 : 0 ≤ (m.1 72 25).toInt ∧ (m.1 72 25).toInt ≤ 14 := hI.1 72 25
  have kc3 := zI.le hI
  unfold fX12_endOf
  have kx4 : 0 ≤ (x1).toInt ∧ (x1).toInt < (14 : Int) := by omega
  refine s_ix kx4 ?_
  have kc5 : (-1 : Int) ≤ (m.1 76 (x1).toNatClampNeg).toInt ∧ (m.1 76 (x1).toNatClampNeg).toInt ≤ 9 := hI.1 76 (x1).toNatClampNeg
  have kc6 : 0 ≤ (m.1 76 (x1).toNatClampNeg).toInt := zI.pf76 hI x1 (by omega) (by omega)
  refine s_eq (fun kh7 => ?_) (fun kh7 => ?_)
  · refine s_ix kx4 ?_
    have kc8 : (-1 : Int) ≤ (m.1 77 (x1).toNatClampNeg).toInt ∧ (m.1 77 (x1).toNatClampNeg).toInt ≤ 9 := hI.1 77 (x1).toNatClampNeg
    have kc9 : 0 ≤ (m.1 77 (x1).toNatClampNeg).toInt := zI.pf77 hI x1 (by omega) (by omega)
    exact s_ret (show (0 ≤ (m.1 77 (x1).toNatClampNeg).toInt) ∧ ((m.1 77 (x1).toNatClampNeg).toInt ≤ 9) by omega)
  · refine s_ix kx4 ?_
    exact s_ret (show (0 ≤ (m.1 76 (x1).toNatClampNeg).toInt) ∧ ((m.1 76 (x1).toNatClampNeg).toInt ≤ 9) by omega)
theorem zX12_walks (x1 : Int32) (m : sm_S) (hp : 0 ≤ x1.toInt ∧ x1.toInt ≤ 13 ∧ x1.toInt < (m.1 72 6).toInt ∧ (((m.1 72 17).toInt = (m.1 76 x1.toNatClampNeg).toInt ∧ (m.1 72 18).toInt + (m.1 78 x1.toNatClampNeg).toInt ≤ 9999) ∨ ((m.1 72 17).toInt ≠ (m.1 76 x1.toNatClampNeg).toInt ∧ (m.1 72 18).toInt + (m.1 78 x1.toNatClampNeg).toInt + (m.1 82 x1.toNatClampNeg).toInt ≤ 9999))) (hI : zI m) : Sf (fun r => ((1 ≤ r.1.toInt) ∧ (r.1.toInt ≤ 29) ∧ ((r.2.1 72 18).toInt = (m.1 72 18).toInt + r.1.toInt)) ∧ zI r.2 ∧ Fr wX12_walks m r.2) (fX12_walks x1 m) := by
  have hfu := fuE
  have kc1 : 0 ≤ (m.1 72 6).toInt ∧ (m.1 72 6).toInt ≤ 14 := hI.1 72 6
  have kc2 : 0 ≤ (m.1 72 25).toInt ∧ (m.1 72 25).toInt ≤ 14 := hI.1 72 25
  have kc3 := zI.le hI
  have kc4 : (-1 : Int) ≤ (m.1 76 (x1).toNatClampNeg).toInt ∧ (m.1 76 (x1).toNatClampNeg).toInt ≤ 9 := hI.1 76 (x1).toNatClampNeg
  have kc5 : 0 ≤ (m.1 76 (x1).toNatClampNeg).toInt := zI.pf76 hI x1 (by omega) (by omega)
  have kc6 : (-1 : Int) ≤ (m.1 78 (x1).toNatClampNeg).toInt ∧ (m.1 78 (x1).toNatClampNeg).toInt ≤ 20 := hI.1 78 (x1).toNatClampNeg
  have kc7 : 1 ≤ (m.1 78 (x1).toNatClampNeg).toInt := zI.pf78 hI x1 (by omega) (by omega)
  have kc8 : (-1 : Int) ≤ (m.1 82 (x1).toNatClampNeg).toInt ∧ (m.1 82 (x1).toNatClampNeg).toInt ≤ 9 := hI.1 82 (x1).toNatClampNeg
  have kc9 : 0 ≤ (m.1 82 (x1).toNatClampNeg).toInt := zI.pf82 hI x1 (by omega) (by omega)
  have kc10 : 0 ≤ (m.1 72 17).toInt ∧ (m.1 72 17).toInt ≤ 9 := hI.1 72 17
  have kc11 : 0 ≤ (m.1 72 18).toInt ∧ (m.1 72 18).toInt ≤ 9999 := hI.1 72 18
  unfold fX12_walks
  refine s_bd (zX12_minutesFrom x1 (m.1 72 17) m (show 0 ≤ x1.toInt ∧ x1.toInt ≤ 13 ∧ (-1 : Int) ≤ (m.1 72 17).toInt ∧ (m.1 72 17).toInt ≤ 9 ∧ x1.toInt < (m.1 72 6).toInt by omega) hI) (fun r2 kr12 => ?_)
  replace kr12 : (1 ≤ r2.toInt) ∧ (r2.toInt ≤ 29) ∧ (((m.1 72 17).toInt = (m.1 76 x1.toNatClampNeg).toInt ∧ r2.toInt = (m.1 78 x1.toNatClampNeg).toInt) ∨ ((m.1 72 17).toInt ≠ (m.1 76 x1.toNatClampNeg).toInt ∧ r2.toInt = (m.1 78 x1.toNatClampNeg).toInt + (m.1 82 x1.toNatClampNeg).toInt)) := kr12
  refine s_bd (zX12_dayOf (m.1 72 18) m (show 0 ≤ (m.1 72 18).toInt ∧ (m.1 72 18).toInt ≤ 9999 by omega) hI) (fun r4 kr13 => ?_)
  replace kr13 : (0 ≤ r4.toInt) ∧ (r4.toInt ≤ 166) := kr13
  have kx14 : 0 ≤ (x1).toInt ∧ (x1).toInt < (14 : Int) := by omega
  refine s_ix kx14 ?_
  have ki15 : zI (sm_w1 m 83 (x1).toNatClampNeg r4) := zI.w hI rfl (rg _)
  have kc16 : 0 ≤ ((sm_w1 m 83 (x1).toNatClampNeg r4).1 72 6).toInt ∧ ((sm_w1 m 83 (x1).toNatClampNeg r4).1 72 6).toInt ≤ 14 := ki15.1 72 6
  have kc17 : 0 ≤ ((sm_w1 m 83 (x1).toNatClampNeg r4).1 72 25).toInt ∧ ((sm_w1 m 83 (x1).toNatClampNeg r4).1 72 25).toInt ≤ 14 := ki15.1 72 25
  have kc18 := zI.le ki15
  have kc19 : ((sm_w1 m 83 (x1).toNatClampNeg r4).1 72 25).toInt = (m.1 72 25).toInt := congrArg Int32.toInt (r_cell (by decide))
  have kc20 : ((sm_w1 m 83 (x1).toNatClampNeg r4).1 72 6).toInt = (m.1 72 6).toInt := congrArg Int32.toInt (r_cell (by decide))
  refine s_bd (zX12_endOf x1 (m.1 72 17) (sm_w1 m 83 (x1).toNatClampNeg r4) (show 0 ≤ x1.toInt ∧ x1.toInt ≤ 13 ∧ (-1 : Int) ≤ (m.1 72 17).toInt ∧ (m.1 72 17).toInt ≤ 9 ∧ x1.toInt < ((sm_w1 m 83 (x1).toNatClampNeg r4).1 72 6).toInt by omega) ki15) (fun r7 kr21 => ?_)
  replace kr21 : (0 ≤ r7.toInt) ∧ (r7.toInt ≤ 9) := kr21
  have ki22 : zI (sm_w1 (sm_w1 m 83 (x1).toNatClampNeg r4) 72 17 r7) := zI.w ki15 rfl (show 0 ≤ (r7).toInt ∧ (r7).toInt ≤ 9 by omega)
  have kc23 : ((m.1 72 18) + r2).toInt = ((m.1 72 18)).toInt + (r2).toInt := a_add (by omega) (by omega)
  have ki24 : zI (sm_w1 (sm_w1 (sm_w1 m 83 (x1).toNatClampNeg r4) 72 17 r7) 72 18 ((m.1 72 18) + r2)) := zI.w ki22 rfl (show 0 ≤ (((m.1 72 18) + r2)).toInt ∧ (((m.1 72 18) + r2)).toInt ≤ 9999 by omega)
  have kc25 : 0 ≤ ((sm_w1 (sm_w1 (sm_w1 m 83 (x1).toNatClampNeg r4) 72 17 r7) 72 18 ((m.1 72 18) + r2)).1 72 18).toInt ∧ ((sm_w1 (sm_w1 (sm_w1 m 83 (x1).toNatClampNeg r4) 72 17 r7) 72 18 ((m.1 72 18) + r2)).1 72 18).toInt ≤ 9999 := ki24.1 72 18
  have kc26 : ((sm_w1 (sm_w1 (sm_w1 m 83 (x1).toNatClampNeg r4) 72 17 r7) 72 18 ((m.1 72 18) + r2)).1 72 18).toInt = (((m.1 72 18) + r2)).toInt := rfl
  have kf27 : Fr wX12_walks m (sm_w1 m 83 (x1).toNatClampNeg r4) := Fr.w Fr.refl rfl
  have kf28 : Fr wX12_walks m (sm_w1 (sm_w1 m 83 (x1).toNatClampNeg r4) 72 17 r7) := Fr.w kf27 rfl
  have kf29 : Fr wX12_walks m (sm_w1 (sm_w1 (sm_w1 m 83 (x1).toNatClampNeg r4) 72 17 r7) 72 18 ((m.1 72 18) + r2)) := Fr.w kf28 rfl
  exact s_ret ⟨(show (1 ≤ r2.toInt) ∧ (r2.toInt ≤ 29) ∧ (((sm_w1 (sm_w1 (sm_w1 m 83 (x1).toNatClampNeg r4) 72 17 r7) 72 18 ((m.1 72 18) + r2)).1 72 18).toInt = (m.1 72 18).toInt + r2.toInt) by omega), ki24, kf29⟩
theorem zX12_walk (x1 : Int32) (m : sm_S) (hI : zI m) : Sf (fun r => (((-5 : Int) ≤ r.1.toInt) ∧ (r.1.toInt ≤ 29)) ∧ zI r.2 ∧ Fr wX12_walk m r.2) (fX12_walk x1 m) := by
  have hfu := fuE
  unfold fX12_walk
  have kc1 := L0
  have ki2 : zI (sm_w1 m 72 0 (0 : Int32)) := zI.w hI rfl (show 0 ≤ ((0 : Int32)).toInt ∧ ((0 : Int32)).toInt ≤ 1 by omega)
  refine s_bd (zX12_isHedge x1 (sm_w1 m 72 0 (0 : Int32)) ki2) (fun r2 kr3 => ?_)
  replace kr3 : (0 ≤ r2.toInt) ∧ (r2.toInt ≤ 1) ∧ ((r2.toInt = 0 ∧ (x1.toInt < 0 ∨ ((sm_w1 m 72 0 (0 : Int32)).1 72 6).toInt ≤ x1.toInt)) ∨ (r2.toInt = 1 ∧ 0 ≤ x1.toInt ∧ x1.toInt < ((sm_w1 m 72 0 (0 : Int32)).1 72 6).toInt)) := kr3
  have kc4 : 0 ≤ ((sm_w1 m 72 0 (0 : Int32)).1 72 6).toInt ∧ ((sm_w1 m 72 0 (0 : Int32)).1 72 6).toInt ≤ 14 := ki2.1 72 6
  have kc5 : 0 ≤ ((sm_w1 m 72 0 (0 : Int32)).1 72 25).toInt ∧ ((sm_w1 m 72 0 (0 : Int32)).1 72 25).toInt ≤ 14 := ki2.1 72 25
  have kc6 := zI.le ki2
  have kc7 : ((sm_w1 m 72 0 (0 : Int32)).1 72 25).toInt = (m.1 72 25).toInt := rfl
  have kc8 : 0 ≤ (m.1 72 25).toInt ∧ (m.1 72 25).toInt ≤ 14 := hI.1 72 25
  have kc9 : 0 ≤ (m.1 72 6).toInt ∧ (m.1 72 6).toInt ≤ 14 := hI.1 72 6
  have kc10 := zI.le hI
  have kc11 : ((sm_w1 m 72 0 (0 : Int32)).1 72 6).toInt = (m.1 72 6).toInt := rfl
  refine s_eq (fun kh12 => ?_) (fun kh12 => ?_)
  · have kc13 := Ln1
    have kf14 : Fr wX12_walk m (sm_w1 m 72 0 (0 : Int32)) := Fr.w Fr.refl rfl
    exact s_ret ⟨(show ((-5 : Int) ≤ (-1 : Int32).toInt) ∧ ((-1 : Int32).toInt ≤ 29) by omega), ki2, kf14⟩
  · refine s_bd (zX12_whyNot x1 (sm_w1 m 72 0 (0 : Int32)) (show 0 ≤ x1.toInt ∧ x1.toInt ≤ 13 ∧ x1.toInt < ((sm_w1 m 72 0 (0 : Int32)).1 72 6).toInt by omega) ki2) (fun r4 kr15 => ?_)
    replace kr15 : ((-5 : Int) ≤ r4.toInt) ∧ (r4.toInt ≤ 0) ∧ (r4.toInt < 0 ∨ ((((sm_w1 m 72 0 (0 : Int32)).1 72 17).toInt = ((sm_w1 m 72 0 (0 : Int32)).1 76 x1.toNatClampNeg).toInt ∧ ((sm_w1 m 72 0 (0 : Int32)).1 72 18).toInt + ((sm_w1 m 72 0 (0 : Int32)).1 78 x1.toNatClampNeg).toInt ≤ ((sm_w1 m 72 0 (0 : Int32)).1 72 16).toInt) ∨ (((sm_w1 m 72 0 (0 : Int32)).1 72 17).toInt ≠ ((sm_w1 m 72 0 (0 : Int32)).1 76 x1.toNatClampNeg).toInt ∧ ((sm_w1 m 72 0 (0 : Int32)).1 72 18).toInt + ((sm_w1 m 72 0 (0 : Int32)).1 78 x1.toNatClampNeg).toInt + ((sm_w1 m 72 0 (0 : Int32)).1 82 x1.toNatClampNeg).toInt ≤ ((sm_w1 m 72 0 (0 : Int32)).1 72 16).toInt))) := kr15
    have kc16 : 0 ≤ ((sm_w1 m 72 0 (0 : Int32)).1 72 17).toInt ∧ ((sm_w1 m 72 0 (0 : Int32)).1 72 17).toInt ≤ 9 := ki2.1 72 17
    have kc17 : ((sm_w1 m 72 0 (0 : Int32)).1 72 17).toInt = (m.1 72 17).toInt := rfl
    have kc18 : 0 ≤ (m.1 72 17).toInt ∧ (m.1 72 17).toInt ≤ 9 := hI.1 72 17
    have kc19 : 0 ≤ ((sm_w1 m 72 0 (0 : Int32)).1 72 18).toInt ∧ ((sm_w1 m 72 0 (0 : Int32)).1 72 18).toInt ≤ 9999 := ki2.1 72 18
    have kc20 : ((sm_w1 m 72 0 (0 : Int32)).1 72 18).toInt = (m.1 72 18).toInt := rfl
    have kc21 : 0 ≤ (m.1 72 18).toInt ∧ (m.1 72 18).toInt ≤ 9999 := hI.1 72 18
    have kc22 : 0 ≤ ((sm_w1 m 72 0 (0 : Int32)).1 72 16).toInt ∧ ((sm_w1 m 72 0 (0 : Int32)).1 72 16).toInt ≤ 9999 := ki2.1 72 16
    have kc23 : ((sm_w1 m 72 0 (0 : Int32)).1 72 16).toInt = (m.1 72 16).toInt := rfl
    have kc24 : 0 ≤ (m.1 72 16).toInt ∧ (m.1 72 16).toInt ≤ 9999 := hI.1 72 16
    have kc25 : (-1 : Int) ≤ ((sm_w1 m 72 0 (0 : Int32)).1 76 (x1).toNatClampNeg).toInt ∧ ((sm_w1 m 72 0 (0 : Int32)).1 76 (x1).toNatClampNeg).toInt ≤ 9 := ki2.1 76 (x1).toNatClampNeg
    have kc26 : 0 ≤ ((sm_w1 m 72 0 (0 : Int32)).1 76 (x1).toNatClampNeg).toInt := zI.pf76 ki2 x1 (by omega) (by omega)
    have kc27 : ((sm_w1 m 72 0 (0 : Int32)).1 76 (x1).toNatClampNeg).toInt = (m.1 76 (x1).toNatClampNeg).toInt := congrArg Int32.toInt (r_cell (by decide))
    have kc28 : (-1 : Int) ≤ (m.1 76 (x1).toNatClampNeg).toInt ∧ (m.1 76 (x1).toNatClampNeg).toInt ≤ 9 := hI.1 76 (x1).toNatClampNeg
    have kc29 : 0 ≤ (m.1 76 (x1).toNatClampNeg).toInt := zI.pf76 hI x1 (by omega) (by omega)
    have kc30 : (-1 : Int) ≤ ((sm_w1 m 72 0 (0 : Int32)).1 78 (x1).toNatClampNeg).toInt ∧ ((sm_w1 m 72 0 (0 : Int32)).1 78 (x1).toNatClampNeg).toInt ≤ 20 := ki2.1 78 (x1).toNatClampNeg
    have kc31 : 1 ≤ ((sm_w1 m 72 0 (0 : Int32)).1 78 (x1).toNatClampNeg).toInt := zI.pf78 ki2 x1 (by omega) (by omega)
    have kc32 : ((sm_w1 m 72 0 (0 : Int32)).1 78 (x1).toNatClampNeg).toInt = (m.1 78 (x1).toNatClampNeg).toInt := congrArg Int32.toInt (r_cell (by decide))
    have kc33 : (-1 : Int) ≤ (m.1 78 (x1).toNatClampNeg).toInt ∧ (m.1 78 (x1).toNatClampNeg).toInt ≤ 20 := hI.1 78 (x1).toNatClampNeg
    have kc34 : 1 ≤ (m.1 78 (x1).toNatClampNeg).toInt := zI.pf78 hI x1 (by omega) (by omega)
    have kc35 : (-1 : Int) ≤ ((sm_w1 m 72 0 (0 : Int32)).1 82 (x1).toNatClampNeg).toInt ∧ ((sm_w1 m 72 0 (0 : Int32)).1 82 (x1).toNatClampNeg).toInt ≤ 9 := ki2.1 82 (x1).toNatClampNeg
    have kc36 : 0 ≤ ((sm_w1 m 72 0 (0 : Int32)).1 82 (x1).toNatClampNeg).toInt := zI.pf82 ki2 x1 (by omega) (by omega)
    have kc37 : ((sm_w1 m 72 0 (0 : Int32)).1 82 (x1).toNatClampNeg).toInt = (m.1 82 (x1).toNatClampNeg).toInt := congrArg Int32.toInt (r_cell (by decide))
    have kc38 : (-1 : Int) ≤ (m.1 82 (x1).toNatClampNeg).toInt ∧ (m.1 82 (x1).toNatClampNeg).toInt ≤ 9 := hI.1 82 (x1).toNatClampNeg
    have kc39 : 0 ≤ (m.1 82 (x1).toNatClampNeg).toInt := zI.pf82 hI x1 (by omega) (by omega)
    refine s_le (fun kh40 => ?_) (fun kh40 => ?_)
    · refine s_bd (zX12_putsBy x1 (sm_w1 m 72 0 (0 : Int32)) (show 0 ≤ x1.toInt ∧ x1.toInt ≤ 13 ∧ x1.toInt < ((sm_w1 m 72 0 (0 : Int32)).1 72 6).toInt by omega) ki2) (fun m6 kr41 => ?_)
      obtain ⟨kp42, ki43, kf44⟩ := kr41
      have kc45 : 0 ≤ (m6.1 72 6).toInt ∧ (m6.1 72 6).toInt ≤ 14 := ki43.1 72 6
      have kc46 : 0 ≤ (m6.1 72 25).toInt ∧ (m6.1 72 25).toInt ≤ 14 := ki43.1 72 25
      have kc47 := zI.le ki43
      have kc48 : (m6.1 72 25).toInt = ((sm_w1 m 72 0 (0 : Int32)).1 72 25).toInt := congrArg Int32.toInt (kf44 72 25 rfl)
      have kc49 : (m6.1 72 6).toInt = ((sm_w1 m 72 0 (0 : Int32)).1 72 6).toInt := congrArg Int32.toInt (kf44 72 6 rfl)
      have kc50 : (-1 : Int) ≤ (m6.1 76 (x1).toNatClampNeg).toInt ∧ (m6.1 76 (x1).toNatClampNeg).toInt ≤ 9 := ki43.1 76 (x1).toNatClampNeg
      have kc51 : 0 ≤ (m6.1 76 (x1).toNatClampNeg).toInt := zI.pf76 ki43 x1 (by omega) (by omega)
      have kc52 : (m6.1 76 (x1).toNatClampNeg).toInt = ((sm_w1 m 72 0 (0 : Int32)).1 76 (x1).toNatClampNeg).toInt := congrArg Int32.toInt (kf44 76 (x1).toNatClampNeg rfl)
      have kc53 : (-1 : Int) ≤ (m6.1 78 (x1).toNatClampNeg).toInt ∧ (m6.1 78 (x1).toNatClampNeg).toInt ≤ 20 := ki43.1 78 (x1).toNatClampNeg
      have kc54 : 1 ≤ (m6.1 78 (x1).toNatClampNeg).toInt := zI.pf78 ki43 x1 (by omega) (by omega)
      have kc55 : (m6.1 78 (x1).toNatClampNeg).toInt = ((sm_w1 m 72 0 (0 : Int32)).1 78 (x1).toNatClampNeg).toInt := congrArg Int32.toInt (kf44 78 (x1).toNatClampNeg rfl)
      have kc56 : (-1 : Int) ≤ (m6.1 82 (x1).toNatClampNeg).toInt ∧ (m6.1 82 (x1).toNatClampNeg).toInt ≤ 9 := ki43.1 82 (x1).toNatClampNeg
      have kc57 : 0 ≤ (m6.1 82 (x1).toNatClampNeg).toInt := zI.pf82 ki43 x1 (by omega) (by omega)
      have kc58 : (m6.1 82 (x1).toNatClampNeg).toInt = ((sm_w1 m 72 0 (0 : Int32)).1 82 (x1).toNatClampNeg).toInt := congrArg Int32.toInt (kf44 82 (x1).toNatClampNeg rfl)
      have kc59 : 0 ≤ (m6.1 72 17).toInt ∧ (m6.1 72 17).toInt ≤ 9 := ki43.1 72 17
      have kc60 : (m6.1 72 17).toInt = ((sm_w1 m 72 0 (0 : Int32)).1 72 17).toInt := congrArg Int32.toInt (kf44 72 17 rfl)
      have kc61 : 0 ≤ (m6.1 72 18).toInt ∧ (m6.1 72 18).toInt ≤ 9999 := ki43.1 72 18
      have kc62 : (m6.1 72 18).toInt = ((sm_w1 m 72 0 (0 : Int32)).1 72 18).toInt := congrArg Int32.toInt (kf44 72 18 rfl)
      refine s_bd (zX12_walks x1 m6 (show 0 ≤ x1.toInt ∧ x1.toInt ≤ 13 ∧ x1.toInt < (m6.1 72 6).toInt ∧ (((m6.1 72 17).toInt = (m6.1 76 x1.toNatClampNeg).toInt ∧ (m6.1 72 18).toInt + (m6.1 78 x1.toNatClampNeg).toInt ≤ 9999) ∨ ((m6.1 72 17).toInt ≠ (m6.1 76 x1.toNatClampNeg).toInt ∧ (m6.1 72 18).toInt + (m6.1 78 x1.toNatClampNeg).toInt + (m6.1 82 x1.toNatClampNeg).toInt ≤ 9999)) by omega) ki43) (fun r8 kr63 => ?_)
      obtain ⟨kp64, ki65, kf66⟩ := kr63
      replace kp64 : (1 ≤ r8.1.toInt) ∧ (r8.1.toInt ≤ 29) ∧ ((r8.2.1 72 18).toInt = (m6.1 72 18).toInt + r8.1.toInt) := kp64
      have kc67 : 0 ≤ (r8.2.1 72 18).toInt ∧ (r8.2.1 72 18).toInt ≤ 9999 := ki65.1 72 18
      have kf68 : Fr wX12_walk m (sm_w1 m 72 0 (0 : Int32)) := Fr.w Fr.refl rfl
      have kf69 : Fr wX12_walk m m6 := Fr.trans kf68 kf44 rfl
      have kf70 : Fr wX12_walk m r8.2 := Fr.trans kf69 kf66 rfl
      exact s_ret ⟨(show ((-5 : Int) ≤ r8.1.toInt) ∧ (r8.1.toInt ≤ 29) by omega), ki65, kf70⟩
    · have kf71 : Fr wX12_walk m (sm_w1 m 72 0 (0 : Int32)) := Fr.w Fr.refl rfl
      exact s_ret ⟨(show ((-5 : Int) ≤ r4.toInt) ∧ (r4.toInt ≤ 29) by omega), ki2, kf71⟩
theorem zX12_rest (x1 : Int32) (m : sm_S) (hI : zI m) : Sf (fun r => (((-5 : Int) ≤ r.1.toInt) ∧ (r.1.toInt ≤ 9999)) ∧ zI r.2 ∧ Fr wX12_rest m r.2) (fX12_rest x1 m) := by
  have hfu := fuE
  unfold fX12_rest
  have kc1 : (x1).toInt64.toInt = (x1).toInt := Int32.toInt_toInt64 _
  have kc2 := LL0
  have kc3 := LL9999
  have kc4 := L0
  have ki5 : zI (sm_w1 m 72 0 (0 : Int32)) := zI.w hI rfl (show 0 ≤ ((0 : Int32)).toInt ∧ ((0 : Int32)).toInt ≤ 1 by omega)
  refine s_bd (zX12_in (x1).toInt64 (0 : Int64) (9999 : Int64) (sm_w1 m 72 0 (0 : Int32)) (show (-1 : Int) ≤ (0 : Int64).toInt ∧ (0 : Int64).toInt ≤ 48 ∧ (-1 : Int) ≤ (9999 : Int64).toInt ∧ (9999 : Int64).toInt ≤ 9999 by omega) ki5) (fun r2 kr6 => ?_)
  replace kr6 : (0 ≤ r2.toInt) ∧ (r2.toInt ≤ 1) ∧ ((r2.toInt = 0 ∧ ((x1).toInt64.toInt < (0 : Int64).toInt ∨ (9999 : Int64).toInt < (x1).toInt64.toInt)) ∨ (r2.toInt = 1 ∧ (0 : Int64).toInt ≤ (x1).toInt64.toInt ∧ (x1).toInt64.toInt ≤ (9999 : Int64).toInt)) := kr6
  refine s_eq (fun kh7 => ?_) (fun kh7 => ?_)
  · have kc8 := Ln1
    have kf9 : Fr wX12_rest m (sm_w1 m 72 0 (0 : Int32)) := Fr.w Fr.refl rfl
    exact s_ret ⟨(show ((-5 : Int) ≤ (-1 : Int32).toInt) ∧ ((-1 : Int32).toInt ≤ 9999) by omega), ki5, kf9⟩
  · have kc10 : 0 ≤ (m.1 72 18).toInt ∧ (m.1 72 18).toInt ≤ 9999 := hI.1 72 18
    have kc11 : ((m.1 72 18) + x1).toInt = ((m.1 72 18)).toInt + (x1).toInt := a_add (by omega) (by omega)
    have kc12 : 0 ≤ (m.1 72 16).toInt ∧ (m.1 72 16).toInt ≤ 9999 := hI.1 72 16
    refine s_le (fun kh13 => ?_) (fun kh13 => ?_)
    · have ki14 : zI (sm_w1 (sm_w1 m 72 0 (0 : Int32)) 72 18 ((m.1 72 18) + x1)) := zI.w ki5 rfl (show 0 ≤ (((m.1 72 18) + x1)).toInt ∧ (((m.1 72 18) + x1)).toInt ≤ 9999 by omega)
      have ki15 : zI (sm_w1 (sm_w1 (sm_w1 m 72 0 (0 : Int32)) 72 18 ((m.1 72 18) + x1)) 72 27 (0 : Int32)) := zI.w ki14 rfl (show 0 ≤ ((0 : Int32)).toInt ∧ ((0 : Int32)).toInt ≤ 30 by omega)
      have kf16 : Fr wX12_rest m (sm_w1 m 72 0 (0 : Int32)) := Fr.w Fr.refl rfl
      have kf17 : Fr wX12_rest m (sm_w1 (sm_w1 m 72 0 (0 : Int32)) 72 18 ((m.1 72 18) + x1)) := Fr.w kf16 rfl
      have kf18 : Fr wX12_rest m (sm_w1 (sm_w1 (sm_w1 m 72 0 (0 : Int32)) 72 18 ((m.1 72 18) + x1)) 72 27 (0 : Int32)) := Fr.w kf17 rfl
      exact s_ret ⟨(show ((-5 : Int) ≤ ((m.1 72 18) + x1).toInt) ∧ (((m.1 72 18) + x1).toInt ≤ 9999) by omega), ki15, kf18⟩
    · have kc19 := Ln5
      have kf20 : Fr wX12_rest m (sm_w1 m 72 0 (0 : Int32)) := Fr.w Fr.refl rfl
      exact s_ret ⟨(show ((-5 : Int) ≤ (-5 : Int32).toInt) ∧ ((-5 : Int32).toInt ≤ 9999) by omega), ki5, kf20⟩
theorem zX12_undo (m : sm_S) (hI : zI m) : Sf (fun r => (((-1 : Int) ≤ r.1.toInt) ∧ (r.1.toInt ≤ 29)) ∧ zI r.2 ∧ Fr wX12_undo m r.2) (fX12_undo m) := by
  have hfu := fuE
  unfold fX12_undo
  have kc1 : 0 ≤ (m.1 72 27).toInt ∧ (m.1 72 27).toInt ≤ 30 := hI.1 72 27
  have kc2 := L0
  refine s_eq (fun kh3 => ?_) (fun kh3 => ?_)
  · have kc4 := Ln1
    have ki5 : zI (sm_w1 m 72 0 (0 : Int32)) := zI.w hI rfl (show 0 ≤ ((0 : Int32)).toInt ∧ ((0 : Int32)).toInt ≤ 1 by omega)
    have kf6 : Fr wX12_undo m (sm_w1 m 72 0 (0 : Int32)) := Fr.w Fr.refl rfl
    exact s_ret ⟨(show ((-1 : Int) ≤ (-1 : Int32).toInt) ∧ ((-1 : Int32).toInt ≤ 29) by omega), ki5, kf6⟩
  · have kc7 : ((m.1 72 27) - (1 : Int32)).toInt = ((m.1 72 27)).toInt - 1 := a_subl L1 (by omega) (by omega)
    have kx8 : 0 ≤ (((m.1 72 27) - (1 : Int32))).toInt ∧ (((m.1 72 27) - (1 : Int32))).toInt < (30 : Int) := by omega
    refine s_ix kx8 ?_
    refine s_ix kx8 ?_
    refine s_ix kx8 ?_
    refine s_ix kx8 ?_
    have kc9 : 0 ≤ (m.1 85 (((m.1 72 27) - (1 : Int32))).toNatClampNeg).toInt ∧ (m.1 85 (((m.1 72 27) - (1 : Int32))).toNatClampNeg).toInt ≤ 13 := hI.1 85 (((m.1 72 27) - (1 : Int32))).toNatClampNeg
    have kx10 : 0 ≤ ((m.1 85 (((m.1 72 27) - (1 : Int32))).toNatClampNeg)).toInt ∧ ((m.1 85 (((m.1 72 27) - (1 : Int32))).toNatClampNeg)).toInt < (14 : Int) := by omega
    refine s_ix kx10 ?_
    have ki11 : zI (sm_w1 m 72 0 (0 : Int32)) := zI.w hI rfl (show 0 ≤ ((0 : Int32)).toInt ∧ ((0 : Int32)).toInt ≤ 1 by omega)
    have ki12 : zI (sm_w1 (sm_w1 m 72 0 (0 : Int32)) 72 27 ((m.1 72 27) - (1 : Int32))) := zI.w ki11 rfl (show 0 ≤ (((m.1 72 27) - (1 : Int32))).toInt ∧ (((m.1 72 27) - (1 : Int32))).toInt ≤ 30 by omega)
    have kc13 : 0 ≤ (m.1 86 (((m.1 72 27) - (1 : Int32))).toNatClampNeg).toInt ∧ (m.1 86 (((m.1 72 27) - (1 : Int32))).toNatClampNeg).toInt ≤ 9 := hI.1 86 (((m.1 72 27) - (1 : Int32))).toNatClampNeg
    have ki14 : zI (sm_w1 (sm_w1 (sm_w1 m 72 0 (0 : Int32)) 72 27 ((m.1 72 27) - (1 : Int32))) 72 17 (m.1 86 (((m.1 72 27) - (1 : Int32))).toNatClampNeg)) := zI.w ki12 rfl (show 0 ≤ ((m.1 86 (((m.1 72 27) - (1 : Int32))).toNatClampNeg)).toInt ∧ ((m.1 86 (((m.1 72 27) - (1 : Int32))).toNatClampNeg)).toInt ≤ 9 by omega)
    have kc15 : 0 ≤ (m.1 87 (((m.1 72 27) - (1 : Int32))).toNatClampNeg).toInt ∧ (m.1 87 (((m.1 72 27) - (1 : Int32))).toNatClampNeg).toInt ≤ 9999 := hI.1 87 (((m.1 72 27) - (1 : Int32))).toNatClampNeg
    have ki16 : zI (sm_w1 (sm_w1 (sm_w1 (sm_w1 m 72 0 (0 : Int32)) 72 27 ((m.1 72 27) - (1 : Int32))) 72 17 (m.1 86 (((m.1 72 27) - (1 : Int32))).toNatClampNeg)) 72 18 (m.1 87 (((m.1 72 27) - (1 : Int32))).toNatClampNeg)) := zI.w ki14 rfl (show 0 ≤ ((m.1 87 (((m.1 72 27) - (1 : Int32))).toNatClampNeg)).toInt ∧ ((m.1 87 (((m.1 72 27) - (1 : Int32))).toNatClampNeg)).toInt ≤ 9999 by omega)
    have ki17 : zI (sm_w1 (sm_w1 (sm_w1 (sm_w1 (sm_w1 m 72 0 (0 : Int32)) 72 27 ((m.1 72 27) - (1 : Int32))) 72 17 (m.1 86 (((m.1 72 27) - (1 : Int32))).toNatClampNeg)) 72 18 (m.1 87 (((m.1 72 27) - (1 : Int32))).toNatClampNeg)) 83 ((m.1 85 (((m.1 72 27) - (1 : Int32))).toNatClampNeg)).toNatClampNeg (m.1 88 (((m.1 72 27) - (1 : Int32))).toNatClampNeg)) := zI.w ki16 rfl (rg _)
    have kf18 : Fr wX12_undo m (sm_w1 m 72 0 (0 : Int32)) := Fr.w Fr.refl rfl
    have kf19 : Fr wX12_undo m (sm_w1 (sm_w1 m 72 0 (0 : Int32)) 72 27 ((m.1 72 27) - (1 : Int32))) := Fr.w kf18 rfl
    have kf20 : Fr wX12_undo m (sm_w1 (sm_w1 (sm_w1 m 72 0 (0 : Int32)) 72 27 ((m.1 72 27) - (1 : Int32))) 72 17 (m.1 86 (((m.1 72 27) - (1 : Int32))).toNatClampNeg)) := Fr.w kf19 rfl
    have kf21 : Fr wX12_undo m (sm_w1 (sm_w1 (sm_w1 (sm_w1 m 72 0 (0 : Int32)) 72 27 ((m.1 72 27) - (1 : Int32))) 72 17 (m.1 86 (((m.1 72 27) - (1 : Int32))).toNatClampNeg)) 72 18 (m.1 87 (((m.1 72 27) - (1 : Int32))).toNatClampNeg)) := Fr.w kf20 rfl
    have kf22 : Fr wX12_undo m (sm_w1 (sm_w1 (sm_w1 (sm_w1 (sm_w1 m 72 0 (0 : Int32)) 72 27 ((m.1 72 27) - (1 : Int32))) 72 17 (m.1 86 (((m.1 72 27) - (1 : Int32))).toNatClampNeg)) 72 18 (m.1 87 (((m.1 72 27) - (1 : Int32))).toNatClampNeg)) 83 ((m.1 85 (((m.1 72 27) - (1 : Int32))).toNatClampNeg)).toNatClampNeg (m.1 88 (((m.1 72 27) - (1 : Int32))).toNatClampNeg)) := Fr.w kf21 rfl
    exact s_ret ⟨(show ((-1 : Int) ≤ ((m.1 72 27) - (1 : Int32)).toInt) ∧ (((m.1 72 27) - (1 : Int32)).toInt ≤ 29) by omega), ki17, kf22⟩
theorem zX12_go_32 (m0 : sm_S) : ∀ (n : Nat) (v2 : Int32) (m : sm_S), (0 ≤ v2.toInt ∧ v2.toInt ≤ 14 ∧ 14 - v2.toInt < (n : Int)) → zI m → Fr wX12_go m0 m → Sf (fun r => ((0 ≤ r.1.toInt) ∧ (r.1.toInt ≤ 1)) ∧ zI r.2 ∧ Fr wX12_go m0 r.2) (fX12_go_32 n v2 m) := by
  intro n
  induction n with
  | zero =>
    intro v2 m hp hI hF
    exfalso
    omega
  | succ n ih =>
    intro v2 m hp hI hF
    have hnn : ((n + 1 : Nat) : Int) = (n : Int) + 1 := by omega
    have hfu := fuE
    unfold fX12_go_32
    have kc1 := L14
    refine s_le (fun kh2 => ?_) (fun kh2 => ?_)
    · have kc3 := L1
      exact s_ret ⟨(show (0 ≤ (1 : Int32).toInt) ∧ ((1 : Int32).toInt ≤ 1) by omega), hI, hF⟩
    · have kx4 : 0 ≤ (v2).toInt ∧ (v2).toInt < (14 : Int) := by omega
      refine s_ix kx4 ?_
      have kc5 : (v2 + (1 : Int32)).toInt = (v2).toInt + 1 := a_addl L1 (by omega) (by omega)
      have kc6 := Ln1
      have ki7 : zI (sm_w1 m 83 (v2).toNatClampNeg (-1 : Int32)) := zI.w hI rfl (rg _)
      have kf8 : Fr wX12_go m0 (sm_w1 m 83 (v2).toNatClampNeg (-1 : Int32)) := Fr.w hF rfl
      exact ih (v2 + (1 : Int32)) (sm_w1 m 83 (v2).toNatClampNeg (-1 : Int32)) (show 0 ≤ (v2 + (1 : Int32)).toInt ∧ (v2 + (1 : Int32)).toInt ≤ 14 ∧ 14 - (v2 + (1 : Int32)).toInt < (n : Int) by omega) ki7 kf8
theorem zX12_go (x1 : Int32) (m : sm_S) (hI : zI m) : Sf (fun r => ((0 ≤ r.1.toInt) ∧ (r.1.toInt ≤ 1)) ∧ zI r.2 ∧ Fr wX12_go m r.2) (fX12_go x1 m) := by
  have hfu := fuE
  unfold fX12_go
  have kc1 := L0
  have ki2 : zI (sm_w1 m 72 0 (0 : Int32)) := zI.w hI rfl (show 0 ≤ ((0 : Int32)).toInt ∧ ((0 : Int32)).toInt ≤ 1 by omega)
  refine s_bd (zX12_isCorner x1 (sm_w1 m 72 0 (0 : Int32)) ki2) (fun r2 kr3 => ?_)
  replace kr3 : (0 ≤ r2.toInt) ∧ (r2.toInt ≤ 1) ∧ ((r2.toInt = 0 ∧ (x1.toInt < 0 ∨ ((sm_w1 m 72 0 (0 : Int32)).1 72 3).toInt ≤ x1.toInt)) ∨ (r2.toInt = 1 ∧ 0 ≤ x1.toInt ∧ x1.toInt < ((sm_w1 m 72 0 (0 : Int32)).1 72 3).toInt)) := kr3
  have kc4 : 0 ≤ ((sm_w1 m 72 0 (0 : Int32)).1 72 3).toInt ∧ ((sm_w1 m 72 0 (0 : Int32)).1 72 3).toInt ≤ 10 := ki2.1 72 3
  have kc5 : ((sm_w1 m 72 0 (0 : Int32)).1 72 3).toInt = (m.1 72 3).toInt := rfl
  have kc6 : 0 ≤ (m.1 72 3).toInt ∧ (m.1 72 3).toInt ≤ 10 := hI.1 72 3
  refine s_eq (fun kh7 => ?_) (fun kh7 => ?_)
  · have kf8 : Fr wX12_go m (sm_w1 m 72 0 (0 : Int32)) := Fr.w Fr.refl rfl
    exact s_ret ⟨(show (0 ≤ (0 : Int32).toInt) ∧ ((0 : Int32).toInt ≤ 1) by omega), ki2, kf8⟩
  · have ki9 : zI (sm_w1 (sm_w1 m 72 0 (0 : Int32)) 72 17 x1) := zI.w ki2 rfl (show 0 ≤ (x1).toInt ∧ (x1).toInt ≤ 9 by omega)
    have ki10 : zI (sm_w1 (sm_w1 (sm_w1 m 72 0 (0 : Int32)) 72 17 x1) 72 18 (0 : Int32)) := zI.w ki9 rfl (show 0 ≤ ((0 : Int32)).toInt ∧ ((0 : Int32)).toInt ≤ 9999 by omega)
    have ki11 : zI (sm_w1 (sm_w1 (sm_w1 (sm_w1 m 72 0 (0 : Int32)) 72 17 x1) 72 18 (0 : Int32)) 72 27 (0 : Int32)) := zI.w ki10 rfl (show 0 ≤ ((0 : Int32)).toInt ∧ ((0 : Int32)).toInt ≤ 30 by omega)
    have kf12 : Fr wX12_go m (sm_w1 m 72 0 (0 : Int32)) := Fr.w Fr.refl rfl
    have kf13 : Fr wX12_go m (sm_w1 (sm_w1 m 72 0 (0 : Int32)) 72 17 x1) := Fr.w kf12 rfl
    have kf14 : Fr wX12_go m (sm_w1 (sm_w1 (sm_w1 m 72 0 (0 : Int32)) 72 17 x1) 72 18 (0 : Int32)) := Fr.w kf13 rfl
    have kf15 : Fr wX12_go m (sm_w1 (sm_w1 (sm_w1 (sm_w1 m 72 0 (0 : Int32)) 72 17 x1) 72 18 (0 : Int32)) 72 27 (0 : Int32)) := Fr.w kf14 rfl
    exact zX12_go_32 m sm_fu (0 : Int32) (sm_w1 (sm_w1 (sm_w1 (sm_w1 m 72 0 (0 : Int32)) 72 17 x1) 72 18 (0 : Int32)) 72 27 (0 : Int32)) (show 0 ≤ (0 : Int32).toInt ∧ (0 : Int32).toInt ≤ 14 ∧ 14 - (0 : Int32).toInt < (sm_fu : Int) by omega) ki11 kf15
theorem zX12_canNow_4 : ∀ (n : Nat) (v1 : Int32) (v2 : Int32) (m : sm_S), (0 ≤ v1.toInt ∧ v1.toInt ≤ 16383 ∧ 0 ≤ v2.toInt ∧ v2.toInt ≤ 14 ∧ 14 - v2.toInt < (n : Int)) → zI m → Sf (fun r => (0 ≤ r.toInt) ∧ (r.toInt ≤ 16383)) (fX12_canNow_4 n v1 v2 m) := by
  intro n
  induction n with
  | zero =>
    intro v1 v2 m hp hI
    exfalso
    omega
  | succ n ih =>
    intro v1 v2 m hp hI
    have hnn : ((n + 1 : Nat) : Int) = (n : Int) + 1 := by omega
    have hfu := fuE
    unfold fX12_canNow_4
    have kc1 : 0 ≤ (m.1 72 6).toInt ∧ (m.1 72 6).toInt ≤ 14 := hI.1 72 6
    have kc2 : 0 ≤ (m.1 72 25).toInt ∧ (m.1 72 25).toInt ≤ 14 := hI.1 72 25
    have kc3 := zI.le hI
    refine s_le (fun kh4 => ?_) (fun kh4 => ?_)
    · exact s_ret (show (0 ≤ v1.toInt) ∧ (v1.toInt ≤ 16383) by omega)
    · refine s_bd (zX12_whyNot v2 m (show 0 ≤ v2.toInt ∧ v2.toInt ≤ 13 ∧ v2.toInt < (m.1 72 6).toInt by omega) hI) (fun r2 kr5 => ?_)
      replace kr5 : ((-5 : Int) ≤ r2.toInt) ∧ (r2.toInt ≤ 0) ∧ (r2.toInt < 0 ∨ (((m.1 72 17).toInt = (m.1 76 v2.toNatClampNeg).toInt ∧ (m.1 72 18).toInt + (m.1 78 v2.toNatClampNeg).toInt ≤ (m.1 72 16).toInt) ∨ ((m.1 72 17).toInt ≠ (m.1 76 v2.toNatClampNeg).toInt ∧ (m.1 72 18).toInt + (m.1 78 v2.toNatClampNeg).toInt + (m.1 82 v2.toNatClampNeg).toInt ≤ (m.1 72 16).toInt))) := kr5
      have kc6 : 0 ≤ (m.1 72 17).toInt ∧ (m.1 72 17).toInt ≤ 9 := hI.1 72 17
      have kc7 : 0 ≤ (m.1 72 18).toInt ∧ (m.1 72 18).toInt ≤ 9999 := hI.1 72 18
      have kc8 : 0 ≤ (m.1 72 16).toInt ∧ (m.1 72 16).toInt ≤ 9999 := hI.1 72 16
      have kc9 : (-1 : Int) ≤ (m.1 76 (v2).toNatClampNeg).toInt ∧ (m.1 76 (v2).toNatClampNeg).toInt ≤ 9 := hI.1 76 (v2).toNatClampNeg
      have kc10 : 0 ≤ (m.1 76 (v2).toNatClampNeg).toInt := zI.pf76 hI v2 (by omega) (by omega)
      have kc11 : (-1 : Int) ≤ (m.1 78 (v2).toNatClampNeg).toInt ∧ (m.1 78 (v2).toNatClampNeg).toInt ≤ 20 := hI.1 78 (v2).toNatClampNeg
      have kc12 : 1 ≤ (m.1 78 (v2).toNatClampNeg).toInt := zI.pf78 hI v2 (by omega) (by omega)
      have kc13 : (-1 : Int) ≤ (m.1 82 (v2).toNatClampNeg).toInt ∧ (m.1 82 (v2).toNatClampNeg).toInt ≤ 9 := hI.1 82 (v2).toNatClampNeg
      have kc14 : 0 ≤ (m.1 82 (v2).toNatClampNeg).toInt := zI.pf82 hI v2 (by omega) (by omega)
      have kc15 := L0
      refine s_eq (fun kh16 => ?_) (fun kh16 => ?_)
      · have kc17 := L1
        have kc18 := L31
        have kc19 : 0 ≤ (v2 &&& (31 : Int32)).toInt ∧ (v2 &&& (31 : Int32)).toInt ≤ ((31 : Int32)).toInt := a_andr (by omega)
        have kc20 : 0 ≤ (v2 &&& (31 : Int32)).toInt ∧ (v2 &&& (31 : Int32)).toInt ≤ (v2).toInt := a_andl (by omega)
        have kc21 : 1 ≤ ((1 : Int32) <<< (v2 &&& (31 : Int32))).toInt ∧ ((1 : Int32) <<< (v2 &&& (31 : Int32))).toInt ≤ 8192 := a_shl 13 (by decide) (by decide) (by omega) (by omega)
        have kc22 : 0 ≤ (v1 ||| ((1 : Int32) <<< (v2 &&& (31 : Int32)))).toInt ∧ (v1 ||| ((1 : Int32) <<< (v2 &&& (31 : Int32)))).toInt < 16384 := a_or 14 (by decide) (by decide) (by omega) (by omega) (by omega) (by omega)
        have kc23 : (v2 + (1 : Int32)).toInt = (v2).toInt + 1 := a_addl L1 (by omega) (by omega)
        exact ih (v1 ||| ((1 : Int32) <<< (v2 &&& (31 : Int32)))) (v2 + (1 : Int32)) m (show 0 ≤ (v1 ||| ((1 : Int32) <<< (v2 &&& (31 : Int32)))).toInt ∧ (v1 ||| ((1 : Int32) <<< (v2 &&& (31 : Int32)))).toInt ≤ 16383 ∧ 0 ≤ (v2 + (1 : Int32)).toInt ∧ (v2 + (1 : Int32)).toInt ≤ 14 ∧ 14 - (v2 + (1 : Int32)).toInt < (n : Int) by omega) hI
      · have kc24 : 0 ≤ (v1 ||| (0 : Int32)).toInt ∧ (v1 ||| (0 : Int32)).toInt < 16384 := a_or 14 (by decide) (by decide) (by omega) (by omega) (by omega) (by omega)
        have kc25 : (v2 + (1 : Int32)).toInt = (v2).toInt + 1 := a_addl L1 (by omega) (by omega)
        exact ih (v1 ||| (0 : Int32)) (v2 + (1 : Int32)) m (show 0 ≤ (v1 ||| (0 : Int32)).toInt ∧ (v1 ||| (0 : Int32)).toInt ≤ 16383 ∧ 0 ≤ (v2 + (1 : Int32)).toInt ∧ (v2 + (1 : Int32)).toInt ≤ 14 ∧ 14 - (v2 + (1 : Int32)).toInt < (n : Int) by omega) hI
theorem zX12_canNow (m : sm_S) (hI : zI m) : Sf (fun r => (0 ≤ r.toInt) ∧ (r.toInt ≤ 16383)) (fX12_canNow m) := by
  have hfu := fuE
  unfold fX12_canNow
  have kc1 := L0
  exact zX12_canNow_4 sm_fu (0 : Int32) (0 : Int32) m (show 0 ≤ (0 : Int32).toInt ∧ (0 : Int32).toInt ≤ 16383 ∧ 0 ≤ (0 : Int32).toInt ∧ (0 : Int32).toInt ≤ 14 ∧ 14 - (0 : Int32).toInt < (sm_fu : Int) by omega) hI
theorem zX12_can (m : sm_S) (hI : zI m) : Sf (fun r => ((0 ≤ r.1.toInt) ∧ (r.1.toInt ≤ 16383)) ∧ zI r.2 ∧ Fr wX12_can m r.2) (fX12_can m) := by
  have hfu := fuE
  unfold fX12_can
  have kc1 := L0
  have ki2 : zI (sm_w1 m 72 0 (0 : Int32)) := zI.w hI rfl (show 0 ≤ ((0 : Int32)).toInt ∧ ((0 : Int32)).toInt ≤ 1 by omega)
  refine s_bd (zX12_canNow (sm_w1 m 72 0 (0 : Int32)) ki2) (fun r2 kr3 => ?_)
  replace kr3 : (0 ≤ r2.toInt) ∧ (r2.toInt ≤ 16383) := kr3
  have kf4 : Fr wX12_can m (sm_w1 m 72 0 (0 : Int32)) := Fr.w Fr.refl rfl
  exact s_ret ⟨(show (0 ≤ r2.toInt) ∧ (r2.toInt ≤ 16383) by omega), ki2, kf4⟩
theorem zX12_enters (x1 : Int32) (m : sm_S) (hp : (m.1 72 1).toInt ≤ 23) (hI : zI m) : Sf (fun r => (((r.1 72 1).toInt = (m.1 72 1).toInt + 1)) ∧ zI r ∧ Fr wX12_enters m r) (fX12_enters x1 m) := by
  have hfu := fuE
  have kc1 : 0 ≤ (m.1 72 1).toInt ∧ (m.1 72 1).toInt ≤ 24 := hI.1 72 1
  unfold fX12_enters
  have kx2 : 0 ≤ ((m.1 72 1)).toInt ∧ ((m.1 72 1)).toInt < (24 : Int) := by omega
  refine s_ix kx2 ?_
  have ki3 : zI (sm_w1 m 73 ((m.1 72 1)).toNatClampNeg x1) := zI.w hI rfl (rg _)
  have kc4 : ((m.1 72 1) + (1 : Int32)).toInt = ((m.1 72 1)).toInt + 1 := a_addl L1 (by omega) (by omega)
  have ki5 : zI (sm_w1 (sm_w1 m 73 ((m.1 72 1)).toNatClampNeg x1) 72 1 ((m.1 72 1) + (1 : Int32))) := zI.w ki3 rfl (show 0 ≤ (((m.1 72 1) + (1 : Int32))).toInt ∧ (((m.1 72 1) + (1 : Int32))).toInt ≤ 24 by omega)
  have kc6 : 0 ≤ ((sm_w1 (sm_w1 m 73 ((m.1 72 1)).toNatClampNeg x1) 72 1 ((m.1 72 1) + (1 : Int32))).1 72 1).toInt ∧ ((sm_w1 (sm_w1 m 73 ((m.1 72 1)).toNatClampNeg x1) 72 1 ((m.1 72 1) + (1 : Int32))).1 72 1).toInt ≤ 24 := ki5.1 72 1
  have kc7 : ((sm_w1 (sm_w1 m 73 ((m.1 72 1)).toNatClampNeg x1) 72 1 ((m.1 72 1) + (1 : Int32))).1 72 1).toInt = (((m.1 72 1) + (1 : Int32))).toInt := rfl
  have kf8 : Fr wX12_enters m (sm_w1 m 73 ((m.1 72 1)).toNatClampNeg x1) := Fr.w Fr.refl rfl
  have kf9 : Fr wX12_enters m (sm_w1 (sm_w1 m 73 ((m.1 72 1)).toNatClampNeg x1) 72 1 ((m.1 72 1) + (1 : Int32))) := Fr.w kf8 rfl
  exact s_ret ⟨(show (((sm_w1 (sm_w1 m 73 ((m.1 72 1)).toNatClampNeg x1) 72 1 ((m.1 72 1) + (1 : Int32))).1 72 1).toInt = (m.1 72 1).toInt + 1) by omega), ki5, kf9⟩
theorem zX12_tour_218 (m0 : sm_S) : ∀ (n : Nat) (v1 : Int32) (v4 : Int32) (v5 : Int32) (v6 : Int32) (v7 : Int32) (v10 : Int32) (m : sm_S), (0 ≤ v1.toInt ∧ v1.toInt ≤ 1 ∧ (-1 : Int) ≤ v4.toInt ∧ v4.toInt ≤ 9 ∧ 0 ≤ v5.toInt ∧ v5.toInt ≤ 30 ∧ 0 ≤ v7.toInt ∧ v7.toInt ≤ 16383 ∧ 0 ≤ v10.toInt ∧ v10.toInt ≤ 30 ∧ 30 - v10.toInt < (n : Int) ∧ (m.1 72 21).toInt = 0) → zI m → Fr wX12_tour m0 m → Sf (fun r => (((r.2.1 72 21).toInt = 0)) ∧ zI r.2 ∧ Fr wX12_tour m0 r.2) (fX12_tour_218 n v1 v4 v5 v6 v7 v10 m) := by
  intro n
  induction n with
  | zero =>
    intro v1 v4 v5 v6 v7 v10 m hp hI hF
    have kc1 : 0 ≤ (m.1 72 21).toInt ∧ (m.1 72 21).toInt ≤ 80 := hI.1 72 21
    exfalso
    omega
  | succ n ih =>
    intro v1 v4 v5 v6 v7 v10 m hp hI hF
    have hnn : ((n + 1 : Nat) : Int) = (n : Int) + 1 := by omega
    have hfu := fuE
    have kc1 : 0 ≤ (m.1 72 21).toInt ∧ (m.1 72 21).toInt ≤ 80 := hI.1 72 21
    unfold fX12_tour_218
    refine s_le (fun kh2 => ?_) (fun kh2 => ?_)
    · have kc3 := L0
      have ki4 : zI (sm_w1 m 72 1 (0 : Int32)) := zI.w hI rfl (show 0 ≤ ((0 : Int32)).toInt ∧ ((0 : Int32)).toInt ≤ 24 by omega)
      have kc5 : 0 ≤ ((sm_w1 m 72 1 (0 : Int32)).1 72 1).toInt ∧ ((sm_w1 m 72 1 (0 : Int32)).1 72 1).toInt ≤ 24 := ki4.1 72 1
      have kc6 : ((sm_w1 m 72 1 (0 : Int32)).1 72 1).toInt = ((0 : Int32)).toInt := rfl
      refine s_bd (zX12_enters v4 (sm_w1 m 72 1 (0 : Int32)) (show ((sm_w1 m 72 1 (0 : Int32)).1 72 1).toInt ≤ 23 by omega) ki4) (fun m12 kr7 => ?_)
      obtain ⟨kp8, ki9, kf10⟩ := kr7
      replace kp8 : ((m12.1 72 1).toInt = ((sm_w1 m 72 1 (0 : Int32)).1 72 1).toInt + 1) := kp8
      have kc11 : 0 ≤ (m12.1 72 1).toInt ∧ (m12.1 72 1).toInt ≤ 24 := ki9.1 72 1
      refine s_bd (zX12_enters v7 m12 (show (m12.1 72 1).toInt ≤ 23 by omega) ki9) (fun m14 kr12 => ?_)
      obtain ⟨kp13, ki14, kf15⟩ := kr12
      replace kp13 : ((m14.1 72 1).toInt = (m12.1 72 1).toInt + 1) := kp13
      have kc16 : 0 ≤ (m14.1 72 1).toInt ∧ (m14.1 72 1).toInt ≤ 24 := ki14.1 72 1
      have kc17 : 0 ≤ (m14.1 72 21).toInt ∧ (m14.1 72 21).toInt ≤ 80 := ki14.1 72 21
      have kc18 : (m14.1 72 21).toInt = (m12.1 72 21).toInt := congrArg Int32.toInt (kf15 72 21 rfl)
      have kc19 : 0 ≤ (m12.1 72 21).toInt ∧ (m12.1 72 21).toInt ≤ 80 := ki9.1 72 21
      have kc20 : (m12.1 72 21).toInt = ((sm_w1 m 72 1 (0 : Int32)).1 72 21).toInt := congrArg Int32.toInt (kf10 72 21 rfl)
      have kc21 : 0 ≤ ((sm_w1 m 72 1 (0 : Int32)).1 72 21).toInt ∧ ((sm_w1 m 72 1 (0 : Int32)).1 72 21).toInt ≤ 80 := ki4.1 72 21
      have kc22 : ((sm_w1 m 72 1 (0 : Int32)).1 72 21).toInt = (m.1 72 21).toInt := rfl
      have kf23 : Fr wX12_tour m0 (sm_w1 m 72 1 (0 : Int32)) := Fr.w hF rfl
      have kf24 : Fr wX12_tour m0 m12 := Fr.trans kf23 kf10 rfl
      have kf25 : Fr wX12_tour m0 m14 := Fr.trans kf24 kf15 rfl
      exact s_ret ⟨(show ((m14.1 72 21).toInt = 0) by omega), ki14, kf25⟩
    · have kx26 : 0 ≤ (v10).toInt ∧ (v10).toInt < (30 : Int) := by omega
      refine s_ix kx26 ?_
      have kc27 := L30
      have kc28 : ((30 : Int32) * v1).toInt = 30 * (v1).toInt := a_mul L30 rfl (by omega) (by omega)
      have kc29 : (((30 : Int32) * v1) + v10).toInt = (((30 : Int32) * v1)).toInt + (v10).toInt := a_add (by omega) (by omega)
      have kx30 : 0 ≤ ((((30 : Int32) * v1) + v10)).toInt ∧ ((((30 : Int32) * v1) + v10)).toInt < (60 : Int) := by omega
      refine s_ix kx30 ?_
      have kc31 : (v10 + (1 : Int32)).toInt = (v10).toInt + 1 := a_addl L1 (by omega) (by omega)
      have kc32 : 0 ≤ (m.1 92 (v10).toNatClampNeg).toInt ∧ (m.1 92 (v10).toNatClampNeg).toInt ≤ 13 := hI.1 92 (v10).toNatClampNeg
      have kc33 : 0 ≤ (m.1 72 6).toInt ∧ (m.1 72 6).toInt ≤ 14 := hI.1 72 6
      have kc34 : 0 ≤ (m.1 72 25).toInt ∧ (m.1 72 25).toInt ≤ 14 := hI.1 72 25
      have kc35 := zI.le hI
      have kc36 := zI.h92 hI (v10).toNatClampNeg
      have ki37 : zI (sm_w1 m 91 ((((30 : Int32) * v1) + v10)).toNatClampNeg (m.1 92 (v10).toNatClampNeg)) := zI.w91 hI (show 0 ≤ ((m.1 92 (v10).toNatClampNeg)).toInt ∧ ((m.1 92 (v10).toNatClampNeg)).toInt ≤ 13 by omega) (show ((m.1 92 (v10).toNatClampNeg)).toInt < (m.1 72 6).toInt ∨ ((m.1 92 (v10).toNatClampNeg)).toInt = 0 by omega)
      have kc38 : 0 ≤ ((sm_w1 m 91 ((((30 : Int32) * v1) + v10)).toNatClampNeg (m.1 92 (v10).toNatClampNeg)).1 72 21).toInt ∧ ((sm_w1 m 91 ((((30 : Int32) * v1) + v10)).toNatClampNeg (m.1 92 (v10).toNatClampNeg)).1 72 21).toInt ≤ 80 := ki37.1 72 21
      have kc39 : ((sm_w1 m 91 ((((30 : Int32) * v1) + v10)).toNatClampNeg (m.1 92 (v10).toNatClampNeg)).1 72 21).toInt = (m.1 72 21).toInt := congrArg Int32.toInt (r_cell (by decide))
      have kf40 : Fr wX12_tour m0 (sm_w1 m 91 ((((30 : Int32) * v1) + v10)).toNatClampNeg (m.1 92 (v10).toNatClampNeg)) := Fr.w hF rfl
      exact ih v1 v4 v5 v6 v7 (v10 + (1 : Int32)) (sm_w1 m 91 ((((30 : Int32) * v1) + v10)).toNatClampNeg (m.1 92 (v10).toNatClampNeg)) (show 0 ≤ v1.toInt ∧ v1.toInt ≤ 1 ∧ (-1 : Int) ≤ v4.toInt ∧ v4.toInt ≤ 9 ∧ 0 ≤ v5.toInt ∧ v5.toInt ≤ 30 ∧ 0 ≤ v7.toInt ∧ v7.toInt ≤ 16383 ∧ 0 ≤ (v10 + (1 : Int32)).toInt ∧ (v10 + (1 : Int32)).toInt ≤ 30 ∧ 30 - (v10 + (1 : Int32)).toInt < (n : Int) ∧ ((sm_w1 m 91 ((((30 : Int32) * v1) + v10)).toNatClampNeg (m.1 92 (v10).toNatClampNeg)).1 72 21).toInt = 0 by omega) ki37 kf40
theorem zX12_tour_62 (m0 : sm_S) : ∀ (n : Nat) (v1 : Int32) (v2 : Int32) (v3 : Int32) (v4 : Int32) (v5 : Int32) (v6 : Int32) (v7 : Int32) (v8 : Int32) (m : sm_S), (0 ≤ v1.toInt ∧ v1.toInt ≤ 1 ∧ 0 ≤ v2.toInt ∧ v2.toInt ≤ 80 ∧ (-1 : Int) ≤ v3.toInt ∧ v3.toInt ≤ 9 ∧ (-1 : Int) ≤ v4.toInt ∧ v4.toInt ≤ 9 ∧ 0 ≤ v5.toInt ∧ v5.toInt ≤ 30 ∧ 0 ≤ v7.toInt ∧ v7.toInt ≤ 16383 ∧ 0 ≤ v8.toInt ∧ v8.toInt ≤ 1 ∧ 2 * (81 - (m.1 72 22).toInt) + v8.toInt < (n : Int) ∧ (m.1 72 23).toInt ≤ 30 ∧ v5.toInt ≤ (m.1 72 22).toInt ∧ (1 ≤ v5.toInt → 1 ≤ (m.1 72 6).toInt) ∧ (m.1 72 21).toInt = 0) → zI m → Fr wX12_tour m0 m → Sf (fun r => (((r.2.1 72 21).toInt = 0)) ∧ zI r.2 ∧ Fr wX12_tour m0 r.2) (fX12_tour_62 n v1 v2 v3 v4 v5 v6 v7 v8 m) := by
  intro n
  induction n with
  | zero =>
    intro v1 v2 v3 v4 v5 v6 v7 v8 m hp hI hF
    have kc1 : 0 ≤ (m.1 72 22).toInt ∧ (m.1 72 22).toInt ≤ 80 := hI.1 72 22
    have kc2 : 0 ≤ (m.1 72 23).toInt ∧ (m.1 72 23).toInt ≤ 76 := hI.1 72 23
    have kc3 : 0 ≤ (m.1 72 6).toInt ∧ (m.1 72 6).toInt ≤ 14 := hI.1 72 6
    have kc4 : 0 ≤ (m.1 72 25).toInt ∧ (m.1 72 25).toInt ≤ 14 := hI.1 72 25
    have kc5 := zI.le hI
    have kc6 : 0 ≤ (m.1 72 21).toInt ∧ (m.1 72 21).toInt ≤ 80 := hI.1 72 21
    exfalso
    omega
  | succ n ih =>
    intro v1 v2 v3 v4 v5 v6 v7 v8 m hp hI hF
    have hnn : ((n + 1 : Nat) : Int) = (n : Int) + 1 := by omega
    have hfu := fuE
    have kc1 : 0 ≤ (m.1 72 22).toInt ∧ (m.1 72 22).toInt ≤ 80 := hI.1 72 22
    have kc2 : 0 ≤ (m.1 72 23).toInt ∧ (m.1 72 23).toInt ≤ 76 := hI.1 72 23
    have kc3 : 0 ≤ (m.1 72 6).toInt ∧ (m.1 72 6).toInt ≤ 14 := hI.1 72 6
    have kc4 : 0 ≤ (m.1 72 25).toInt ∧ (m.1 72 25).toInt ≤ 14 := hI.1 72 25
    have kc5 := zI.le hI
    have kc6 : 0 ≤ (m.1 72 21).toInt ∧ (m.1 72 21).toInt ≤ 80 := hI.1 72 21
    unfold fX12_tour_62
    have kc7 := L0
    refine s_eq (fun kh8 => ?_) (fun kh8 => ?_)
    · have kc9 := L30
      refine s_bd (zX12_faultOf v2 (30 : Int32) v8 m (show 0 ≤ v2.toInt ∧ v2.toInt ≤ 80 ∧ 30 ≤ (30 : Int32).toInt ∧ (30 : Int32).toInt ≤ 76 ∧ 0 ≤ v8.toInt ∧ v8.toInt ≤ 1 by omega) hI) (fun r8 kr10 => ?_)
      replace kr10 : ((-81 : Int) ≤ r8.toInt) ∧ (r8.toInt ≤ 0) := kr10
      refine s_le (fun kh11 => ?_) (fun kh11 => ?_)
      · have kx12 : 0 ≤ (v1).toInt ∧ (v1).toInt < (2 : Int) := by omega
        refine s_ix kx12 ?_
        refine s_ix kx12 ?_
        have ki13 : zI (sm_w1 m 89 (v1).toNatClampNeg v3) := zI.w hI rfl (show (-1 : Int) ≤ (v3).toInt ∧ (v3).toInt ≤ 9 by omega)
        have kc15 : 0 ≤ ((sm_w1 m 89 (v1).toNatClampNeg v3).1 72 6).toInt ∧ ((sm_w1 m 89 (v1).toNatClampNeg v3).1 72 6).toInt ≤ 14 := ki13.1 72 6
        have kc16 : 0 ≤ ((sm_w1 m 89 (v1).toNatClampNeg v3).1 72 25).toInt ∧ ((sm_w1 m 89 (v1).toNatClampNeg v3).1 72 25).toInt ≤ 14 := ki13.1 72 25
        have kc17 := zI.le ki13
        have kc18 : ((sm_w1 m 89 (v1).toNatClampNeg v3).1 72 25).toInt = (m.1 72 25).toInt := congrArg Int32.toInt (r_cell (by decide))
        have kc19 : ((sm_w1 m 89 (v1).toNatClampNeg v3).1 72 6).toInt = (m.1 72 6).toInt := congrArg Int32.toInt (r_cell (by decide))
        have ki14 : zI (sm_w1 (sm_w1 m 89 (v1).toNatClampNeg v3) 90 (v1).toNatClampNeg v5) := zI.w90 ki13 (show 0 ≤ (v5).toInt ∧ (v5).toInt ≤ 30 by omega) (show 1 ≤ (v5).toInt → 1 ≤ ((sm_w1 m 89 (v1).toNatClampNeg v3).1 72 6).toInt by omega)
        have kc20 : 0 ≤ ((sm_w1 (sm_w1 m 89 (v1).toNatClampNeg v3) 90 (v1).toNatClampNeg v5).1 72 21).toInt ∧ ((sm_w1 (sm_w1 m 89 (v1).toNatClampNeg v3) 90 (v1).toNatClampNeg v5).1 72 21).toInt ≤ 80 := ki14.1 72 21
        have kc21 : ((sm_w1 (sm_w1 m 89 (v1).toNatClampNeg v3) 90 (v1).toNatClampNeg v5).1 72 21).toInt = ((sm_w1 m 89 (v1).toNatClampNeg v3).1 72 21).toInt := congrArg Int32.toInt (r_cell (by decide))
        have kc22 : 0 ≤ ((sm_w1 m 89 (v1).toNatClampNeg v3).1 72 21).toInt ∧ ((sm_w1 m 89 (v1).toNatClampNeg v3).1 72 21).toInt ≤ 80 := ki13.1 72 21
        have kc23 : ((sm_w1 m 89 (v1).toNatClampNeg v3).1 72 21).toInt = (m.1 72 21).toInt := congrArg Int32.toInt (r_cell (by decide))
        have kf24 : Fr wX12_tour m0 (sm_w1 m 89 (v1).toNatClampNeg v3) := Fr.w hF rfl
        have kf25 : Fr wX12_tour m0 (sm_w1 (sm_w1 m 89 (v1).toNatClampNeg v3) 90 (v1).toNatClampNeg v5) := Fr.w kf24 rfl
        exact zX12_tour_218 m0 sm_fu v1 v4 v5 v6 v7 (0 : Int32) (sm_w1 (sm_w1 m 89 (v1).toNatClampNeg v3) 90 (v1).toNatClampNeg v5) (show 0 ≤ v1.toInt ∧ v1.toInt ≤ 1 ∧ (-1 : Int) ≤ v4.toInt ∧ v4.toInt ≤ 9 ∧ 0 ≤ v5.toInt ∧ v5.toInt ≤ 30 ∧ 0 ≤ v7.toInt ∧ v7.toInt ≤ 16383 ∧ 0 ≤ (0 : Int32).toInt ∧ (0 : Int32).toInt ≤ 30 ∧ 30 - (0 : Int32).toInt < (sm_fu : Int) ∧ ((sm_w1 (sm_w1 m 89 (v1).toNatClampNeg v3) 90 (v1).toNatClampNeg v5).1 72 21).toInt = 0 by omega) ki14 kf25
      · exact s_ret ⟨(show ((m.1 72 21).toInt = 0) by omega), hI, hF⟩
    · refine s_le (fun kh26 => ?_) (fun kh26 => ?_)
      · have kc27 := L30
        refine s_bd (zX12_faultOf v2 (30 : Int32) v8 m (show 0 ≤ v2.toInt ∧ v2.toInt ≤ 80 ∧ 30 ≤ (30 : Int32).toInt ∧ (30 : Int32).toInt ≤ 76 ∧ 0 ≤ v8.toInt ∧ v8.toInt ≤ 1 by omega) hI) (fun r18 kr28 => ?_)
        replace kr28 : ((-81 : Int) ≤ r18.toInt) ∧ (r18.toInt ≤ 0) := kr28
        refine s_le (fun kh29 => ?_) (fun kh29 => ?_)
        · have kx30 : 0 ≤ (v1).toInt ∧ (v1).toInt < (2 : Int) := by omega
          refine s_ix kx30 ?_
          refine s_ix kx30 ?_
          have ki31 : zI (sm_w1 m 89 (v1).toNatClampNeg v3) := zI.w hI rfl (show (-1 : Int) ≤ (v3).toInt ∧ (v3).toInt ≤ 9 by omega)
          have kc33 : 0 ≤ ((sm_w1 m 89 (v1).toNatClampNeg v3).1 72 6).toInt ∧ ((sm_w1 m 89 (v1).toNatClampNeg v3).1 72 6).toInt ≤ 14 := ki31.1 72 6
          have kc34 : 0 ≤ ((sm_w1 m 89 (v1).toNatClampNeg v3).1 72 25).toInt ∧ ((sm_w1 m 89 (v1).toNatClampNeg v3).1 72 25).toInt ≤ 14 := ki31.1 72 25
          have kc35 := zI.le ki31
          have kc36 : ((sm_w1 m 89 (v1).toNatClampNeg v3).1 72 25).toInt = (m.1 72 25).toInt := congrArg Int32.toInt (r_cell (by decide))
          have kc37 : ((sm_w1 m 89 (v1).toNatClampNeg v3).1 72 6).toInt = (m.1 72 6).toInt := congrArg Int32.toInt (r_cell (by decide))
          have ki32 : zI (sm_w1 (sm_w1 m 89 (v1).toNatClampNeg v3) 90 (v1).toNatClampNeg v5) := zI.w90 ki31 (show 0 ≤ (v5).toInt ∧ (v5).toInt ≤ 30 by omega) (show 1 ≤ (v5).toInt → 1 ≤ ((sm_w1 m 89 (v1).toNatClampNeg v3).1 72 6).toInt by omega)
          have kc38 : 0 ≤ ((sm_w1 (sm_w1 m 89 (v1).toNatClampNeg v3) 90 (v1).toNatClampNeg v5).1 72 21).toInt ∧ ((sm_w1 (sm_w1 m 89 (v1).toNatClampNeg v3) 90 (v1).toNatClampNeg v5).1 72 21).toInt ≤ 80 := ki32.1 72 21
          have kc39 : ((sm_w1 (sm_w1 m 89 (v1).toNatClampNeg v3) 90 (v1).toNatClampNeg v5).1 72 21).toInt = ((sm_w1 m 89 (v1).toNatClampNeg v3).1 72 21).toInt := congrArg Int32.toInt (r_cell (by decide))
          have kc40 : 0 ≤ ((sm_w1 m 89 (v1).toNatClampNeg v3).1 72 21).toInt ∧ ((sm_w1 m 89 (v1).toNatClampNeg v3).1 72 21).toInt ≤ 80 := ki31.1 72 21
          have kc41 : ((sm_w1 m 89 (v1).toNatClampNeg v3).1 72 21).toInt = (m.1 72 21).toInt := congrArg Int32.toInt (r_cell (by decide))
          have kf42 : Fr wX12_tour m0 (sm_w1 m 89 (v1).toNatClampNeg v3) := Fr.w hF rfl
          have kf43 : Fr wX12_tour m0 (sm_w1 (sm_w1 m 89 (v1).toNatClampNeg v3) 90 (v1).toNatClampNeg v5) := Fr.w kf42 rfl
          exact zX12_tour_218 m0 sm_fu v1 v4 v5 v6 v7 (0 : Int32) (sm_w1 (sm_w1 m 89 (v1).toNatClampNeg v3) 90 (v1).toNatClampNeg v5) (show 0 ≤ v1.toInt ∧ v1.toInt ≤ 1 ∧ (-1 : Int) ≤ v4.toInt ∧ v4.toInt ≤ 9 ∧ 0 ≤ v5.toInt ∧ v5.toInt ≤ 30 ∧ 0 ≤ v7.toInt ∧ v7.toInt ≤ 16383 ∧ 0 ≤ (0 : Int32).toInt ∧ (0 : Int32).toInt ≤ 30 ∧ 30 - (0 : Int32).toInt < (sm_fu : Int) ∧ ((sm_w1 (sm_w1 m 89 (v1).toNatClampNeg v3) 90 (v1).toNatClampNeg v5).1 72 21).toInt = 0 by omega) ki32 kf43
        · exact s_ret ⟨(show ((m.1 72 21).toInt = 0) by omega), hI, hF⟩
      · have kx44 : 0 ≤ ((m.1 72 22)).toInt ∧ ((m.1 72 22)).toInt < (80 : Int) := by omega
        refine s_ix kx44 ?_
        refine s_bd (zX12_isHedge ((m.1 84 ((m.1 72 22)).toNatClampNeg) - (65 : Int32)) m hI) (fun r23 kr45 => ?_)
        replace kr45 : (0 ≤ r23.toInt) ∧ (r23.toInt ≤ 1) ∧ ((r23.toInt = 0 ∧ (((m.1 84 ((m.1 72 22)).toNatClampNeg) - (65 : Int32)).toInt < 0 ∨ (m.1 72 6).toInt ≤ ((m.1 84 ((m.1 72 22)).toNatClampNeg) - (65 : Int32)).toInt)) ∨ (r23.toInt = 1 ∧ 0 ≤ ((m.1 84 ((m.1 72 22)).toNatClampNeg) - (65 : Int32)).toInt ∧ ((m.1 84 ((m.1 72 22)).toNatClampNeg) - (65 : Int32)).toInt < (m.1 72 6).toInt)) := kr45
        have kc46 : 0 ≤ (m.1 84 ((m.1 72 22)).toNatClampNeg).toInt ∧ (m.1 84 ((m.1 72 22)).toNatClampNeg).toInt ≤ 255 := hI.1 84 ((m.1 72 22)).toNatClampNeg
        have kc47 : ((m.1 84 ((m.1 72 22)).toNatClampNeg) - (65 : Int32)).toInt = ((m.1 84 ((m.1 72 22)).toNatClampNeg)).toInt - 65 := a_subl L65 (by omega) (by omega)
        refine s_eq (fun kh48 => ?_) (fun kh48 => ?_)
        · exact ih v1 v2 v3 v4 v5 v6 v7 (0 : Int32) m (show 0 ≤ v1.toInt ∧ v1.toInt ≤ 1 ∧ 0 ≤ v2.toInt ∧ v2.toInt ≤ 80 ∧ (-1 : Int) ≤ v3.toInt ∧ v3.toInt ≤ 9 ∧ (-1 : Int) ≤ v4.toInt ∧ v4.toInt ≤ 9 ∧ 0 ≤ v5.toInt ∧ v5.toInt ≤ 30 ∧ 0 ≤ v7.toInt ∧ v7.toInt ≤ 16383 ∧ 0 ≤ (0 : Int32).toInt ∧ (0 : Int32).toInt ≤ 1 ∧ 2 * (81 - (m.1 72 22).toInt) + (0 : Int32).toInt < (n : Int) ∧ (m.1 72 23).toInt ≤ 30 ∧ v5.toInt ≤ (m.1 72 22).toInt ∧ (1 ≤ v5.toInt → 1 ≤ (m.1 72 6).toInt) ∧ (m.1 72 21).toInt = 0 by omega) hI hF
        · refine s_bd (zX12_isEnd ((m.1 84 ((m.1 72 22)).toNatClampNeg) - (65 : Int32)) v4 m (show 0 ≤ ((m.1 84 ((m.1 72 22)).toNatClampNeg) - (65 : Int32)).toInt ∧ ((m.1 84 ((m.1 72 22)).toNatClampNeg) - (65 : Int32)).toInt ≤ 13 ∧ (-1 : Int) ≤ v4.toInt ∧ v4.toInt ≤ 9 ∧ ((m.1 84 ((m.1 72 22)).toNatClampNeg) - (65 : Int32)).toInt < (m.1 72 6).toInt by omega) hI) (fun r25 kr49 => ?_)
          replace kr49 : (0 ≤ r25.toInt) ∧ (r25.toInt ≤ 1) := kr49
          refine s_eq (fun kh50 => ?_) (fun kh50 => ?_)
          · exact ih v1 v2 v3 v4 v5 v6 v7 (0 : Int32) m (show 0 ≤ v1.toInt ∧ v1.toInt ≤ 1 ∧ 0 ≤ v2.toInt ∧ v2.toInt ≤ 80 ∧ (-1 : Int) ≤ v3.toInt ∧ v3.toInt ≤ 9 ∧ (-1 : Int) ≤ v4.toInt ∧ v4.toInt ≤ 9 ∧ 0 ≤ v5.toInt ∧ v5.toInt ≤ 30 ∧ 0 ≤ v7.toInt ∧ v7.toInt ≤ 16383 ∧ 0 ≤ (0 : Int32).toInt ∧ (0 : Int32).toInt ≤ 1 ∧ 2 * (81 - (m.1 72 22).toInt) + (0 : Int32).toInt < (n : Int) ∧ (m.1 72 23).toInt ≤ 30 ∧ v5.toInt ≤ (m.1 72 22).toInt ∧ (1 ≤ v5.toInt → 1 ≤ (m.1 72 6).toInt) ∧ (m.1 72 21).toInt = 0 by omega) hI hF
          · have kx51 : 0 ≤ (v5).toInt ∧ (v5).toInt < (30 : Int) := by omega
            refine s_ix kx51 ?_
            have ki52 : zI (sm_w1 m 92 (v5).toNatClampNeg ((m.1 84 ((m.1 72 22)).toNatClampNeg) - (65 : Int32))) := zI.w92 hI (show 0 ≤ (((m.1 84 ((m.1 72 22)).toNatClampNeg) - (65 : Int32))).toInt ∧ (((m.1 84 ((m.1 72 22)).toNatClampNeg) - (65 : Int32))).toInt ≤ 13 by omega) (show (((m.1 84 ((m.1 72 22)).toNatClampNeg) - (65 : Int32))).toInt < (m.1 72 6).toInt ∨ (((m.1 84 ((m.1 72 22)).toNatClampNeg) - (65 : Int32))).toInt = 0 by omega)
            have kc53 : 0 ≤ ((sm_w1 m 92 (v5).toNatClampNeg ((m.1 84 ((m.1 72 22)).toNatClampNeg) - (65 : Int32))).1 72 6).toInt ∧ ((sm_w1 m 92 (v5).toNatClampNeg ((m.1 84 ((m.1 72 22)).toNatClampNeg) - (65 : Int32))).1 72 6).toInt ≤ 14 := ki52.1 72 6
            have kc54 : 0 ≤ ((sm_w1 m 92 (v5).toNatClampNeg ((m.1 84 ((m.1 72 22)).toNatClampNeg) - (65 : Int32))).1 72 25).toInt ∧ ((sm_w1 m 92 (v5).toNatClampNeg ((m.1 84 ((m.1 72 22)).toNatClampNeg) - (65 : Int32))).1 72 25).toInt ≤ 14 := ki52.1 72 25
            have kc55 := zI.le ki52
            have kc56 : ((sm_w1 m 92 (v5).toNatClampNeg ((m.1 84 ((m.1 72 22)).toNatClampNeg) - (65 : Int32))).1 72 25).toInt = (m.1 72 25).toInt := congrArg Int32.toInt (r_cell (by decide))
            have kc57 : ((sm_w1 m 92 (v5).toNatClampNeg ((m.1 84 ((m.1 72 22)).toNatClampNeg) - (65 : Int32))).1 72 6).toInt = (m.1 72 6).toInt := congrArg Int32.toInt (r_cell (by decide))
            refine s_bd (zX12_minutesFrom ((m.1 84 ((m.1 72 22)).toNatClampNeg) - (65 : Int32)) v4 (sm_w1 m 92 (v5).toNatClampNeg ((m.1 84 ((m.1 72 22)).toNatClampNeg) - (65 : Int32))) (show 0 ≤ ((m.1 84 ((m.1 72 22)).toNatClampNeg) - (65 : Int32)).toInt ∧ ((m.1 84 ((m.1 72 22)).toNatClampNeg) - (65 : Int32)).toInt ≤ 13 ∧ (-1 : Int) ≤ v4.toInt ∧ v4.toInt ≤ 9 ∧ ((m.1 84 ((m.1 72 22)).toNatClampNeg) - (65 : Int32)).toInt < ((sm_w1 m 92 (v5).toNatClampNeg ((m.1 84 ((m.1 72 22)).toNatClampNeg) - (65 : Int32))).1 72 6).toInt by omega) ki52) (fun r28 kr58 => ?_)
            replace kr58 : (1 ≤ r28.toInt) ∧ (r28.toInt ≤ 29) ∧ ((v4.toInt = ((sm_w1 m 92 (v5).toNatClampNeg ((m.1 84 ((m.1 72 22)).toNatClampNeg) - (65 : Int32))).1 76 ((m.1 84 ((m.1 72 22)).toNatClampNeg) - (65 : Int32)).toNatClampNeg).toInt ∧ r28.toInt = ((sm_w1 m 92 (v5).toNatClampNeg ((m.1 84 ((m.1 72 22)).toNatClampNeg) - (65 : Int32))).1 78 ((m.1 84 ((m.1 72 22)).toNatClampNeg) - (65 : Int32)).toNatClampNeg).toInt) ∨ (v4.toInt ≠ ((sm_w1 m 92 (v5).toNatClampNeg ((m.1 84 ((m.1 72 22)).toNatClampNeg) - (65 : Int32))).1 76 ((m.1 84 ((m.1 72 22)).toNatClampNeg) - (65 : Int32)).toNatClampNeg).toInt ∧ r28.toInt = ((sm_w1 m 92 (v5).toNatClampNeg ((m.1 84 ((m.1 72 22)).toNatClampNeg) - (65 : Int32))).1 78 ((m.1 84 ((m.1 72 22)).toNatClampNeg) - (65 : Int32)).toNatClampNeg).toInt + ((sm_w1 m 92 (v5).toNatClampNeg ((m.1 84 ((m.1 72 22)).toNatClampNeg) - (65 : Int32))).1 82 ((m.1 84 ((m.1 72 22)).toNatClampNeg) - (65 : Int32)).toNatClampNeg).toInt)) := kr58
            have kc59 : (-1 : Int) ≤ ((sm_w1 m 92 (v5).toNatClampNeg ((m.1 84 ((m.1 72 22)).toNatClampNeg) - (65 : Int32))).1 76 (((m.1 84 ((m.1 72 22)).toNatClampNeg) - (65 : Int32))).toNatClampNeg).toInt ∧ ((sm_w1 m 92 (v5).toNatClampNeg ((m.1 84 ((m.1 72 22)).toNatClampNeg) - (65 : Int32))).1 76 (((m.1 84 ((m.1 72 22)).toNatClampNeg) - (65 : Int32))).toNatClampNeg).toInt ≤ 9 := ki52.1 76 (((m.1 84 ((m.1 72 22)).toNatClampNeg) - (65 : Int32))).toNatClampNeg
            have kc60 : 0 ≤ ((sm_w1 m 92 (v5).toNatClampNeg ((m.1 84 ((m.1 72 22)).toNatClampNeg) - (65 : Int32))).1 76 (((m.1 84 ((m.1 72 22)).toNatClampNeg) - (65 : Int32))).toNatClampNeg).toInt := zI.pf76 ki52 ((m.1 84 ((m.1 72 22)).toNatClampNeg) - (65 : Int32)) (by omega) (by omega)
            have kc61 : ((sm_w1 m 92 (v5).toNatClampNeg ((m.1 84 ((m.1 72 22)).toNatClampNeg) - (65 : Int32))).1 76 (((m.1 84 ((m.1 72 22)).toNatClampNeg) - (65 : Int32))).toNatClampNeg).toInt = (m.1 76 (((m.1 84 ((m.1 72 22)).toNatClampNeg) - (65 : Int32))).toNatClampNeg).toInt := congrArg Int32.toInt (r_cell (by decide))
            have kc62 : (-1 : Int) ≤ (m.1 76 (((m.1 84 ((m.1 72 22)).toNatClampNeg) - (65 : Int32))).toNatClampNeg).toInt ∧ (m.1 76 (((m.1 84 ((m.1 72 22)).toNatClampNeg) - (65 : Int32))).toNatClampNeg).toInt ≤ 9 := hI.1 76 (((m.1 84 ((m.1 72 22)).toNatClampNeg) - (65 : Int32))).toNatClampNeg
            have kc63 : 0 ≤ (m.1 76 (((m.1 84 ((m.1 72 22)).toNatClampNeg) - (65 : Int32))).toNatClampNeg).toInt := zI.pf76 hI ((m.1 84 ((m.1 72 22)).toNatClampNeg) - (65 : Int32)) (by omega) (by omega)
            have kc64 : (-1 : Int) ≤ ((sm_w1 m 92 (v5).toNatClampNeg ((m.1 84 ((m.1 72 22)).toNatClampNeg) - (65 : Int32))).1 78 (((m.1 84 ((m.1 72 22)).toNatClampNeg) - (65 : Int32))).toNatClampNeg).toInt ∧ ((sm_w1 m 92 (v5).toNatClampNeg ((m.1 84 ((m.1 72 22)).toNatClampNeg) - (65 : Int32))).1 78 (((m.1 84 ((m.1 72 22)).toNatClampNeg) - (65 : Int32))).toNatClampNeg).toInt ≤ 20 := ki52.1 78 (((m.1 84 ((m.1 72 22)).toNatClampNeg) - (65 : Int32))).toNatClampNeg
            have kc65 : 1 ≤ ((sm_w1 m 92 (v5).toNatClampNeg ((m.1 84 ((m.1 72 22)).toNatClampNeg) - (65 : Int32))).1 78 (((m.1 84 ((m.1 72 22)).toNatClampNeg) - (65 : Int32))).toNatClampNeg).toInt := zI.pf78 ki52 ((m.1 84 ((m.1 72 22)).toNatClampNeg) - (65 : Int32)) (by omega) (by omega)
            have kc66 : ((sm_w1 m 92 (v5).toNatClampNeg ((m.1 84 ((m.1 72 22)).toNatClampNeg) - (65 : Int32))).1 78 (((m.1 84 ((m.1 72 22)).toNatClampNeg) - (65 : Int32))).toNatClampNeg).toInt = (m.1 78 (((m.1 84 ((m.1 72 22)).toNatClampNeg) - (65 : Int32))).toNatClampNeg).toInt := congrArg Int32.toInt (r_cell (by decide))
            have kc67 : (-1 : Int) ≤ (m.1 78 (((m.1 84 ((m.1 72 22)).toNatClampNeg) - (65 : Int32))).toNatClampNeg).toInt ∧ (m.1 78 (((m.1 84 ((m.1 72 22)).toNatClampNeg) - (65 : Int32))).toNatClampNeg).toInt ≤ 20 := hI.1 78 (((m.1 84 ((m.1 72 22)).toNatClampNeg) - (65 : Int32))).toNatClampNeg
            have kc68 : 1 ≤ (m.1 78 (((m.1 84 ((m.1 72 22)).toNatClampNeg) - (65 : Int32))).toNatClampNeg).toInt := zI.pf78 hI ((m.1 84 ((m.1 72 22)).toNatClampNeg) - (65 : Int32)) (by omega) (by omega)
            have kc69 : (-1 : Int) ≤ ((sm_w1 m 92 (v5).toNatClampNeg ((m.1 84 ((m.1 72 22)).toNatClampNeg) - (65 : Int32))).1 82 (((m.1 84 ((m.1 72 22)).toNatClampNeg) - (65 : Int32))).toNatClampNeg).toInt ∧ ((sm_w1 m 92 (v5).toNatClampNeg ((m.1 84 ((m.1 72 22)).toNatClampNeg) - (65 : Int32))).1 82 (((m.1 84 ((m.1 72 22)).toNatClampNeg) - (65 : Int32))).toNatClampNeg).toInt ≤ 9 := ki52.1 82 (((m.1 84 ((m.1 72 22)).toNatClampNeg) - (65 : Int32))).toNatClampNeg
            have kc70 : 0 ≤ ((sm_w1 m 92 (v5).toNatClampNeg ((m.1 84 ((m.1 72 22)).toNatClampNeg) - (65 : Int32))).1 82 (((m.1 84 ((m.1 72 22)).toNatClampNeg) - (65 : Int32))).toNatClampNeg).toInt := zI.pf82 ki52 ((m.1 84 ((m.1 72 22)).toNatClampNeg) - (65 : Int32)) (by omega) (by omega)
            have kc71 : ((sm_w1 m 92 (v5).toNatClampNeg ((m.1 84 ((m.1 72 22)).toNatClampNeg) - (65 : Int32))).1 82 (((m.1 84 ((m.1 72 22)).toNatClampNeg) - (65 : Int32))).toNatClampNeg).toInt = (m.1 82 (((m.1 84 ((m.1 72 22)).toNatClampNeg) - (65 : Int32))).toNatClampNeg).toInt := congrArg Int32.toInt (r_cell (by decide))
            have kc72 : (-1 : Int) ≤ (m.1 82 (((m.1 84 ((m.1 72 22)).toNatClampNeg) - (65 : Int32))).toNatClampNeg).toInt ∧ (m.1 82 (((m.1 84 ((m.1 72 22)).toNatClampNeg) - (65 : Int32))).toNatClampNeg).toInt ≤ 9 := hI.1 82 (((m.1 84 ((m.1 72 22)).toNatClampNeg) - (65 : Int32))).toNatClampNeg
            have kc73 : 0 ≤ (m.1 82 (((m.1 84 ((m.1 72 22)).toNatClampNeg) - (65 : Int32))).toNatClampNeg).toInt := zI.pf82 hI ((m.1 84 ((m.1 72 22)).toNatClampNeg) - (65 : Int32)) (by omega) (by omega)
            refine s_bd (zX12_endOf ((m.1 84 ((m.1 72 22)).toNatClampNeg) - (65 : Int32)) v4 (sm_w1 m 92 (v5).toNatClampNeg ((m.1 84 ((m.1 72 22)).toNatClampNeg) - (65 : Int32))) (show 0 ≤ ((m.1 84 ((m.1 72 22)).toNatClampNeg) - (65 : Int32)).toInt ∧ ((m.1 84 ((m.1 72 22)).toNatClampNeg) - (65 : Int32)).toInt ≤ 13 ∧ (-1 : Int) ≤ v4.toInt ∧ v4.toInt ≤ 9 ∧ ((m.1 84 ((m.1 72 22)).toNatClampNeg) - (65 : Int32)).toInt < ((sm_w1 m 92 (v5).toNatClampNeg ((m.1 84 ((m.1 72 22)).toNatClampNeg) - (65 : Int32))).1 72 6).toInt by omega) ki52) (fun r30 kr74 => ?_)
            replace kr74 : (0 ≤ r30.toInt) ∧ (r30.toInt ≤ 9) := kr74
            have kc75 : (v5 + (1 : Int32)).toInt = (v5).toInt + 1 := a_addl L1 (by omega) (by omega)
            have kc76 := L1
            have kc77 := L31
            have kc78 : 0 ≤ (((m.1 84 ((m.1 72 22)).toNatClampNeg) - (65 : Int32)) &&& (31 : Int32)).toInt ∧ (((m.1 84 ((m.1 72 22)).toNatClampNeg) - (65 : Int32)) &&& (31 : Int32)).toInt ≤ ((31 : Int32)).toInt := a_andr (by omega)
            have kc79 : 0 ≤ (((m.1 84 ((m.1 72 22)).toNatClampNeg) - (65 : Int32)) &&& (31 : Int32)).toInt ∧ (((m.1 84 ((m.1 72 22)).toNatClampNeg) - (65 : Int32)) &&& (31 : Int32)).toInt ≤ (((m.1 84 ((m.1 72 22)).toNatClampNeg) - (65 : Int32))).toInt := a_andl (by omega)
            have kc80 : 1 ≤ ((1 : Int32) <<< (((m.1 84 ((m.1 72 22)).toNatClampNeg) - (65 : Int32)) &&& (31 : Int32))).toInt ∧ ((1 : Int32) <<< (((m.1 84 ((m.1 72 22)).toNatClampNeg) - (65 : Int32)) &&& (31 : Int32))).toInt ≤ 8192 := a_shl 13 (by decide) (by decide) (by omega) (by omega)
            have kc81 : 0 ≤ (v7 ||| ((1 : Int32) <<< (((m.1 84 ((m.1 72 22)).toNatClampNeg) - (65 : Int32)) &&& (31 : Int32)))).toInt ∧ (v7 ||| ((1 : Int32) <<< (((m.1 84 ((m.1 72 22)).toNatClampNeg) - (65 : Int32)) &&& (31 : Int32)))).toInt < 16384 := a_or 14 (by decide) (by decide) (by omega) (by omega) (by omega) (by omega)
            have kc82 : ((m.1 72 22) + (1 : Int32)).toInt = ((m.1 72 22)).toInt + 1 := a_addl L1 (by omega) (by omega)
            have ki83 : zI (sm_w1 (sm_w1 m 92 (v5).toNatClampNeg ((m.1 84 ((m.1 72 22)).toNatClampNeg) - (65 : Int32))) 72 22 ((m.1 72 22) + (1 : Int32))) := zI.w ki52 rfl (show 0 ≤ (((m.1 72 22) + (1 : Int32))).toInt ∧ (((m.1 72 22) + (1 : Int32))).toInt ≤ 80 by omega)
            have kc84 : 0 ≤ ((sm_w1 (sm_w1 m 92 (v5).toNatClampNeg ((m.1 84 ((m.1 72 22)).toNatClampNeg) - (65 : Int32))) 72 22 ((m.1 72 22) + (1 : Int32))).1 72 22).toInt ∧ ((sm_w1 (sm_w1 m 92 (v5).toNatClampNeg ((m.1 84 ((m.1 72 22)).toNatClampNeg) - (65 : Int32))) 72 22 ((m.1 72 22) + (1 : Int32))).1 72 22).toInt ≤ 80 := ki83.1 72 22
            have kc85 : ((sm_w1 (sm_w1 m 92 (v5).toNatClampNeg ((m.1 84 ((m.1 72 22)).toNatClampNeg) - (65 : Int32))) 72 22 ((m.1 72 22) + (1 : Int32))).1 72 22).toInt = (((m.1 72 22) + (1 : Int32))).toInt := rfl
            have kc86 : 0 ≤ ((sm_w1 (sm_w1 m 92 (v5).toNatClampNeg ((m.1 84 ((m.1 72 22)).toNatClampNeg) - (65 : Int32))) 72 22 ((m.1 72 22) + (1 : Int32))).1 72 23).toInt ∧ ((sm_w1 (sm_w1 m 92 (v5).toNatClampNeg ((m.1 84 ((m.1 72 22)).toNatClampNeg) - (65 : Int32))) 72 22 ((m.1 72 22) + (1 : Int32))).1 72 23).toInt ≤ 76 := ki83.1 72 23
            have kc87 : ((sm_w1 (sm_w1 m 92 (v5).toNatClampNeg ((m.1 84 ((m.1 72 22)).toNatClampNeg) - (65 : Int32))) 72 22 ((m.1 72 22) + (1 : Int32))).1 72 23).toInt = ((sm_w1 m 92 (v5).toNatClampNeg ((m.1 84 ((m.1 72 22)).toNatClampNeg) - (65 : Int32))).1 72 23).toInt := rfl
            have kc88 : 0 ≤ ((sm_w1 m 92 (v5).toNatClampNeg ((m.1 84 ((m.1 72 22)).toNatClampNeg) - (65 : Int32))).1 72 23).toInt ∧ ((sm_w1 m 92 (v5).toNatClampNeg ((m.1 84 ((m.1 72 22)).toNatClampNeg) - (65 : Int32))).1 72 23).toInt ≤ 76 := ki52.1 72 23
            have kc89 : ((sm_w1 m 92 (v5).toNatClampNeg ((m.1 84 ((m.1 72 22)).toNatClampNeg) - (65 : Int32))).1 72 23).toInt = (m.1 72 23).toInt := congrArg Int32.toInt (r_cell (by decide))
            have kc90 : 0 ≤ ((sm_w1 (sm_w1 m 92 (v5).toNatClampNeg ((m.1 84 ((m.1 72 22)).toNatClampNeg) - (65 : Int32))) 72 22 ((m.1 72 22) + (1 : Int32))).1 72 6).toInt ∧ ((sm_w1 (sm_w1 m 92 (v5).toNatClampNeg ((m.1 84 ((m.1 72 22)).toNatClampNeg) - (65 : Int32))) 72 22 ((m.1 72 22) + (1 : Int32))).1 72 6).toInt ≤ 14 := ki83.1 72 6
            have kc91 : 0 ≤ ((sm_w1 (sm_w1 m 92 (v5).toNatClampNeg ((m.1 84 ((m.1 72 22)).toNatClampNeg) - (65 : Int32))) 72 22 ((m.1 72 22) + (1 : Int32))).1 72 25).toInt ∧ ((sm_w1 (sm_w1 m 92 (v5).toNatClampNeg ((m.1 84 ((m.1 72 22)).toNatClampNeg) - (65 : Int32))) 72 22 ((m.1 72 22) + (1 : Int32))).1 72 25).toInt ≤ 14 := ki83.1 72 25
            have kc92 := zI.le ki83
            have kc93 : ((sm_w1 (sm_w1 m 92 (v5).toNatClampNeg ((m.1 84 ((m.1 72 22)).toNatClampNeg) - (65 : Int32))) 72 22 ((m.1 72 22) + (1 : Int32))).1 72 25).toInt = ((sm_w1 m 92 (v5).toNatClampNeg ((m.1 84 ((m.1 72 22)).toNatClampNeg) - (65 : Int32))).1 72 25).toInt := rfl
            have kc94 : ((sm_w1 (sm_w1 m 92 (v5).toNatClampNeg ((m.1 84 ((m.1 72 22)).toNatClampNeg) - (65 : Int32))) 72 22 ((m.1 72 22) + (1 : Int32))).1 72 6).toInt = ((sm_w1 m 92 (v5).toNatClampNeg ((m.1 84 ((m.1 72 22)).toNatClampNeg) - (65 : Int32))).1 72 6).toInt := rfl
            have kc95 : 0 ≤ ((sm_w1 (sm_w1 m 92 (v5).toNatClampNeg ((m.1 84 ((m.1 72 22)).toNatClampNeg) - (65 : Int32))) 72 22 ((m.1 72 22) + (1 : Int32))).1 72 21).toInt ∧ ((sm_w1 (sm_w1 m 92 (v5).toNatClampNeg ((m.1 84 ((m.1 72 22)).toNatClampNeg) - (65 : Int32))) 72 22 ((m.1 72 22) + (1 : Int32))).1 72 21).toInt ≤ 80 := ki83.1 72 21
            have kc96 : ((sm_w1 (sm_w1 m 92 (v5).toNatClampNeg ((m.1 84 ((m.1 72 22)).toNatClampNeg) - (65 : Int32))) 72 22 ((m.1 72 22) + (1 : Int32))).1 72 21).toInt = ((sm_w1 m 92 (v5).toNatClampNeg ((m.1 84 ((m.1 72 22)).toNatClampNeg) - (65 : Int32))).1 72 21).toInt := rfl
            have kc97 : 0 ≤ ((sm_w1 m 92 (v5).toNatClampNeg ((m.1 84 ((m.1 72 22)).toNatClampNeg) - (65 : Int32))).1 72 21).toInt ∧ ((sm_w1 m 92 (v5).toNatClampNeg ((m.1 84 ((m.1 72 22)).toNatClampNeg) - (65 : Int32))).1 72 21).toInt ≤ 80 := ki52.1 72 21
            have kc98 : ((sm_w1 m 92 (v5).toNatClampNeg ((m.1 84 ((m.1 72 22)).toNatClampNeg) - (65 : Int32))).1 72 21).toInt = (m.1 72 21).toInt := congrArg Int32.toInt (r_cell (by decide))
            have kf99 : Fr wX12_tour m0 (sm_w1 m 92 (v5).toNatClampNeg ((m.1 84 ((m.1 72 22)).toNatClampNeg) - (65 : Int32))) := Fr.w hF rfl
            have kf100 : Fr wX12_tour m0 (sm_w1 (sm_w1 m 92 (v5).toNatClampNeg ((m.1 84 ((m.1 72 22)).toNatClampNeg) - (65 : Int32))) 72 22 ((m.1 72 22) + (1 : Int32))) := Fr.w kf99 rfl
            exact ih v1 v2 v3 r30 (v5 + (1 : Int32)) (v6 + r28) (v7 ||| ((1 : Int32) <<< (((m.1 84 ((m.1 72 22)).toNatClampNeg) - (65 : Int32)) &&& (31 : Int32)))) (1 : Int32) (sm_w1 (sm_w1 m 92 (v5).toNatClampNeg ((m.1 84 ((m.1 72 22)).toNatClampNeg) - (65 : Int32))) 72 22 ((m.1 72 22) + (1 : Int32))) (show 0 ≤ v1.toInt ∧ v1.toInt ≤ 1 ∧ 0 ≤ v2.toInt ∧ v2.toInt ≤ 80 ∧ (-1 : Int) ≤ v3.toInt ∧ v3.toInt ≤ 9 ∧ (-1 : Int) ≤ r30.toInt ∧ r30.toInt ≤ 9 ∧ 0 ≤ (v5 + (1 : Int32)).toInt ∧ (v5 + (1 : Int32)).toInt ≤ 30 ∧ 0 ≤ (v7 ||| ((1 : Int32) <<< (((m.1 84 ((m.1 72 22)).toNatClampNeg) - (65 : Int32)) &&& (31 : Int32)))).toInt ∧ (v7 ||| ((1 : Int32) <<< (((m.1 84 ((m.1 72 22)).toNatClampNeg) - (65 : Int32)) &&& (31 : Int32)))).toInt ≤ 16383 ∧ 0 ≤ (1 : Int32).toInt ∧ (1 : Int32).toInt ≤ 1 ∧ 2 * (81 - ((sm_w1 (sm_w1 m 92 (v5).toNatClampNeg ((m.1 84 ((m.1 72 22)).toNatClampNeg) - (65 : Int32))) 72 22 ((m.1 72 22) + (1 : Int32))).1 72 22).toInt) + (1 : Int32).toInt < (n : Int) ∧ ((sm_w1 (sm_w1 m 92 (v5).toNatClampNeg ((m.1 84 ((m.1 72 22)).toNatClampNeg) - (65 : Int32))) 72 22 ((m.1 72 22) + (1 : Int32))).1 72 23).toInt ≤ 30 ∧ (v5 + (1 : Int32)).toInt ≤ ((sm_w1 (sm_w1 m 92 (v5).toNatClampNeg ((m.1 84 ((m.1 72 22)).toNatClampNeg) - (65 : Int32))) 72 22 ((m.1 72 22) + (1 : Int32))).1 72 22).toInt ∧ (1 ≤ (v5 + (1 : Int32)).toInt → 1 ≤ ((sm_w1 (sm_w1 m 92 (v5).toNatClampNeg ((m.1 84 ((m.1 72 22)).toNatClampNeg) - (65 : Int32))) 72 22 ((m.1 72 22) + (1 : Int32))).1 72 6).toInt) ∧ ((sm_w1 (sm_w1 m 92 (v5).toNatClampNeg ((m.1 84 ((m.1 72 22)).toNatClampNeg) - (65 : Int32))) 72 22 ((m.1 72 22) + (1 : Int32))).1 72 21).toInt = 0 by omega) ki83 kf100
