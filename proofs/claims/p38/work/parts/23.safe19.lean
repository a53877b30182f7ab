theorem zX12_row (x1 : Int32) (m : sm_S) (hI : zI m) : Sf (fun r => (True) ∧ zI r.2 ∧ Fr wX12_row m r.2) (fX12_row x1 m) := by
  have hfu := fuE
  unfold fX12_row
  have kc1 : (x1).toInt64.toInt = (x1).toInt := Int32.toInt_toInt64 _
  have kc2 := LL0
  have kc3 : 0 ≤ (m.1 72 1).toInt ∧ (m.1 72 1).toInt ≤ 24 := hI.1 72 1
  have kc4 : ((m.1 72 1) - (1 : Int32)).toInt = ((m.1 72 1)).toInt - 1 := a_subl L1 (by omega) (by omega)
  have kc5 : (((m.1 72 1) - (1 : Int32))).toInt64.toInt = (((m.1 72 1) - (1 : Int32))).toInt := Int32.toInt_toInt64 _
  have kc6 := L0
  have ki7 : zI (sm_w1 m 72 0 (0 : Int32)) := zI.w hI rfl (show 0 ≤ ((0 : Int32)).toInt ∧ ((0 : Int32)).toInt ≤ 1 by omega)
  refine s_bd (zX12_in (x1).toInt64 (0 : Int64) (((m.1 72 1) - (1 : Int32))).toInt64 (sm_w1 m 72 0 (0 : Int32)) (show (-1 : Int) ≤ (0 : Int64).toInt ∧ (0 : Int64).toInt ≤ 48 ∧ (-1 : Int) ≤ (((m.1 72 1) - (1 : Int32))).toInt64.toInt ∧ (((m.1 72 1) - (1 : Int32))).toInt64.toInt ≤ 9999 by omega) ki7) (fun r2 kr8 => ?_)
  replace kr8 : (0 ≤ r2.toInt) ∧ (r2.toInt ≤ 1) ∧ ((r2.toInt = 0 ∧ ((x1).toInt64.toInt < (0 : Int64).toInt ∨ (((m.1 72 1) - (1 : Int32))).toInt64.toInt < (x1).toInt64.toInt)) ∨ (r2.toInt = 1 ∧ (0 : Int64).toInt ≤ (x1).toInt64.toInt ∧ (x1).toInt64.toInt ≤ (((m.1 72 1) - (1 : Int32))).toInt64.toInt)) := kr8
  refine s_eq (fun kh9 => ?_) (fun kh9 => ?_)
  · have kc10 := L1
    have ki11 : zI (sm_w1 (sm_w1 m 72 0 (0 : Int32)) 72 0 (1 : Int32)) := zI.w ki7 rfl (show 0 ≤ ((1 : Int32)).toInt ∧ ((1 : Int32)).toInt ≤ 1 by omega)
    have kf12 : Fr wX12_row m (sm_w1 m 72 0 (0 : Int32)) := Fr.w Fr.refl rfl
    have kf13 : Fr wX12_row m (sm_w1 (sm_w1 m 72 0 (0 : Int32)) 72 0 (1 : Int32)) := Fr.w kf12 rfl
    exact s_ret ⟨trivial, ki11, kf13⟩
  · have kx14 : 0 ≤ (x1).toInt ∧ (x1).toInt < (24 : Int) := by omega
    refine s_ix kx14 ?_
    have kf15 : Fr wX12_row m (sm_w1 m 72 0 (0 : Int32)) := Fr.w Fr.refl rfl
    exact s_ret ⟨trivial, ki7, kf15⟩
