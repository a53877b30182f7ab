theorem zX12_count (x1 : Int32) (m : sm_S) (hI : zI m) : Sf (fun r => (((-1 : Int) ≤ r.1.toInt) ∧ (r.1.toInt ≤ 9999)) ∧ zI r.2 ∧ Fr wX12_count m r.2) (fX12_count x1 m) := by
  have hfu := fuE
  unfold fX12_count
  have kc1 := L0
  refine s_eq (fun kh2 => ?_) (fun kh2 => ?_)
  · have kc3 : 0 ≤ (m.1 72 3).toInt ∧ (m.1 72 3).toInt ≤ 10 := hI.1 72 3
    have ki4 : zI (sm_w1 m 72 0 (0 : Int32)) := zI.w hI rfl (show 0 ≤ ((0 : Int32)).toInt ∧ ((0 : Int32)).toInt ≤ 1 by omega)
    have kf5 : Fr wX12_count m (sm_w1 m 72 0 (0 : Int32)) := Fr.w Fr.refl rfl
    exact s_ret ⟨(show ((-1 : Int) ≤ (m.1 72 3).toInt) ∧ ((m.1 72 3).toInt ≤ 9999) by omega), ki4, kf5⟩
  · have kc6 := L1
    refine s_eq (fun kh7 => ?_) (fun kh7 => ?_)
    · have kc8 : 0 ≤ (m.1 72 6).toInt ∧ (m.1 72 6).toInt ≤ 14 := hI.1 72 6
      have kc9 : 0 ≤ (m.1 72 25).toInt ∧ (m.1 72 25).toInt ≤ 14 := hI.1 72 25
      have kc10 := zI.le hI
      have ki11 : zI (sm_w1 m 72 0 (0 : Int32)) := zI.w hI rfl (show 0 ≤ ((0 : Int32)).toInt ∧ ((0 : Int32)).toInt ≤ 1 by omega)
      have kf12 : Fr wX12_count m (sm_w1 m 72 0 (0 : Int32)) := Fr.w Fr.refl rfl
      exact s_ret ⟨(show ((-1 : Int) ≤ (m.1 72 6).toInt) ∧ ((m.1 72 6).toInt ≤ 9999) by omega), ki11, kf12⟩
    · have kc13 := L2
      refine s_eq (fun kh14 => ?_) (fun kh14 => ?_)
      · have kc15 : 0 ≤ (m.1 72 3).toInt ∧ (m.1 72 3).toInt ≤ 10 := hI.1 72 3
        refine s_eq (fun kh16 => ?_) (fun kh16 => ?_)
        · have kc17 := Ln1
          have ki18 : zI (sm_w1 m 72 0 (0 : Int32)) := zI.w hI rfl (show 0 ≤ ((0 : Int32)).toInt ∧ ((0 : Int32)).toInt ≤ 1 by omega)
          have kf19 : Fr wX12_count m (sm_w1 m 72 0 (0 : Int32)) := Fr.w Fr.refl rfl
          exact s_ret ⟨(show ((-1 : Int) ≤ (-1 : Int32).toInt) ∧ ((-1 : Int32).toInt ≤ 9999) by omega), ki18, kf19⟩
        · have kc20 : 0 ≤ (m.1 72 17).toInt ∧ (m.1 72 17).toInt ≤ 9 := hI.1 72 17
          have ki21 : zI (sm_w1 m 72 0 (0 : Int32)) := zI.w hI rfl (show 0 ≤ ((0 : Int32)).toInt ∧ ((0 : Int32)).toInt ≤ 1 by omega)
          have kf22 : Fr wX12_count m (sm_w1 m 72 0 (0 : Int32)) := Fr.w Fr.refl rfl
          exact s_ret ⟨(show ((-1 : Int) ≤ (m.1 72 17).toInt) ∧ ((m.1 72 17).toInt ≤ 9999) by omega), ki21, kf22⟩
      · have kc23 := L3
        refine s_eq (fun kh24 => ?_) (fun kh24 => ?_)
        · have kc25 : 0 ≤ (m.1 72 18).toInt ∧ (m.1 72 18).toInt ≤ 9999 := hI.1 72 18
          have ki26 : zI (sm_w1 m 72 0 (0 : Int32)) := zI.w hI rfl (show 0 ≤ ((0 : Int32)).toInt ∧ ((0 : Int32)).toInt ≤ 1 by omega)
          have kf27 : Fr wX12_count m (sm_w1 m 72 0 (0 : Int32)) := Fr.w Fr.refl rfl
          exact s_ret ⟨(show ((-1 : Int) ≤ (m.1 72 18).toInt) ∧ ((m.1 72 18).toInt ≤ 9999) by omega), ki26, kf27⟩
        · have kc28 := L4
          refine s_eq (fun kh29 => ?_) (fun kh29 => ?_)
          · have kc30 : 0 ≤ (m.1 72 27).toInt ∧ (m.1 72 27).toInt ≤ 30 := hI.1 72 27
            have ki31 : zI (sm_w1 m 72 0 (0 : Int32)) := zI.w hI rfl (show 0 ≤ ((0 : Int32)).toInt ∧ ((0 : Int32)).toInt ≤ 1 by omega)
            have kf32 : Fr wX12_count m (sm_w1 m 72 0 (0 : Int32)) := Fr.w Fr.refl rfl
            exact s_ret ⟨(show ((-1 : Int) ≤ (m.1 72 27).toInt) ∧ ((m.1 72 27).toInt ≤ 9999) by omega), ki31, kf32⟩
          · have kc33 := L5
            refine s_eq (fun kh34 => ?_) (fun kh34 => ?_)
            · have kc35 : 0 ≤ (m.1 72 51).toInt ∧ (m.1 72 51).toInt ≤ 12 := hI.1 72 51
              have ki36 : zI (sm_w1 m 72 0 (0 : Int32)) := zI.w hI rfl (show 0 ≤ ((0 : Int32)).toInt ∧ ((0 : Int32)).toInt ≤ 1 by omega)
              have kf37 : Fr wX12_count m (sm_w1 m 72 0 (0 : Int32)) := Fr.w Fr.refl rfl
              exact s_ret ⟨(show ((-1 : Int) ≤ (m.1 72 51).toInt) ∧ ((m.1 72 51).toInt ≤ 9999) by omega), ki36, kf37⟩
            · have kc38 := L6
              refine s_eq (fun kh39 => ?_) (fun kh39 => ?_)
              · have kc40 : 0 ≤ (m.1 72 1).toInt ∧ (m.1 72 1).toInt ≤ 24 := hI.1 72 1
                have ki41 : zI (sm_w1 m 72 0 (0 : Int32)) := zI.w hI rfl (show 0 ≤ ((0 : Int32)).toInt ∧ ((0 : Int32)).toInt ≤ 1 by omega)
                have kf42 : Fr wX12_count m (sm_w1 m 72 0 (0 : Int32)) := Fr.w Fr.refl rfl
                exact s_ret ⟨(show ((-1 : Int) ≤ (m.1 72 1).toInt) ∧ ((m.1 72 1).toInt ≤ 9999) by omega), ki41, kf42⟩
              · have kc43 := L7
                refine s_eq (fun kh44 => ?_) (fun kh44 => ?_)
                · have kc45 : 0 ≤ (m.1 72 21).toInt ∧ (m.1 72 21).toInt ≤ 80 := hI.1 72 21
                  have ki46 : zI (sm_w1 m 72 0 (0 : Int32)) := zI.w hI rfl (show 0 ≤ ((0 : Int32)).toInt ∧ ((0 : Int32)).toInt ≤ 1 by omega)
                  have kf47 : Fr wX12_count m (sm_w1 m 72 0 (0 : Int32)) := Fr.w Fr.refl rfl
                  exact s_ret ⟨(show ((-1 : Int) ≤ (m.1 72 21).toInt) ∧ ((m.1 72 21).toInt ≤ 9999) by omega), ki46, kf47⟩
                · have kc48 := L8
                  refine s_eq (fun kh49 => ?_) (fun kh49 => ?_)
                  · have kc50 : 0 ≤ (m.1 72 15).toInt ∧ (m.1 72 15).toInt ≤ 99 := hI.1 72 15
                    have ki51 : zI (sm_w1 m 72 0 (0 : Int32)) := zI.w hI rfl (show 0 ≤ ((0 : Int32)).toInt ∧ ((0 : Int32)).toInt ≤ 1 by omega)
                    have kf52 : Fr wX12_count m (sm_w1 m 72 0 (0 : Int32)) := Fr.w Fr.refl rfl
                    exact s_ret ⟨(show ((-1 : Int) ≤ (m.1 72 15).toInt) ∧ ((m.1 72 15).toInt ≤ 9999) by omega), ki51, kf52⟩
                  · have kc53 := L9
                    refine s_eq (fun kh54 => ?_) (fun kh54 => ?_)
                    · have kc55 : 0 ≤ (m.1 72 16).toInt ∧ (m.1 72 16).toInt ≤ 9999 := hI.1 72 16
                      have ki56 : zI (sm_w1 m 72 0 (0 : Int32)) := zI.w hI rfl (show 0 ≤ ((0 : Int32)).toInt ∧ ((0 : Int32)).toInt ≤ 1 by omega)
                      have kf57 : Fr wX12_count m (sm_w1 m 72 0 (0 : Int32)) := Fr.w Fr.refl rfl
                      exact s_ret ⟨(show ((-1 : Int) ≤ (m.1 72 16).toInt) ∧ ((m.1 72 16).toInt ≤ 9999) by omega), ki56, kf57⟩
                    · have kc58 := Ln1
                      have ki59 : zI (sm_w1 m 72 0 (0 : Int32)) := zI.w hI rfl (show 0 ≤ ((0 : Int32)).toInt ∧ ((0 : Int32)).toInt ≤ 1 by omega)
                      have kf60 : Fr wX12_count m (sm_w1 m 72 0 (0 : Int32)) := Fr.w Fr.refl rfl
                      exact s_ret ⟨(show ((-1 : Int) ≤ (-1 : Int32).toInt) ∧ ((-1 : Int32).toInt ≤ 9999) by omega), ki59, kf60⟩
theorem zX12_row (x1 : Int32) (m : sm_S) (hI : zI m) : Sf (fun r => (True) ∧ zI r.2 ∧ Fr wX12_row m r.2) (fX12_row x1 m) := by
  have hfu := fuE
  unfold fX12_row
  have kc1 : (x1).toInt64.toInt = (x1).toInt := Int32.toInt_toInt64 _
  have kc2 := LL0
  have kc3 : 0 ≤ (m.1 72 1).toInt ∧ (m.1 72 1).toInt ≤ 24 := hI.1 72 1
  have kc4 := L1
  have kc5 : ((m.1 72 1) - (1 : Int32)).toInt = ((m.1 72 1)).toInt - ((1 : Int32)).toInt := a_sub (by omega) (by omega)
  have kc6 : (((m.1 72 1) - (1 : Int32))).toInt64.toInt = (((m.1 72 1) - (1 : Int32))).toInt := Int32.toInt_toInt64 _
  have kc7 := L0
  have ki8 : zI (sm_w1 m 72 0 (0 : Int32)) := zI.w hI rfl (show 0 ≤ ((0 : Int32)).toInt ∧ ((0 : Int32)).toInt ≤ 1 by omega)
  refine s_bd (zX12_in (x1).toInt64 (0 : Int64) (((m.1 72 1) - (1 : Int32))).toInt64 (sm_w1 m 72 0 (0 : Int32)) (show (-1 : Int) ≤ (0 : Int64).toInt ∧ (0 : Int64).toInt ≤ 48 ∧ (-1 : Int) ≤ (((m.1 72 1) - (1 : Int32))).toInt64.toInt ∧ (((m.1 72 1) - (1 : Int32))).toInt64.toInt ≤ 9999 by omega) ki8) (fun r2 kr9 => ?_)
  replace kr9 : (0 ≤ r2.toInt) ∧ (r2.toInt ≤ 1) ∧ ((r2.toInt = 0 ∧ ((x1).toInt64.toInt < (0 : Int64).toInt ∨ (((m.1 72 1) - (1 : Int32))).toInt64.toInt < (x1).toInt64.toInt)) ∨ (r2.toInt = 1 ∧ (0 : Int64).toInt ≤ (x1).toInt64.toInt ∧ (x1).toInt64.toInt ≤ (((m.1 72 1) - (1 : Int32))).toInt64.toInt)) := kr9
  refine s_eq (fun kh10 => ?_) (fun kh10 => ?_)
  · have ki11 : zI (sm_w1 (sm_w1 m 72 0 (0 : Int32)) 72 0 (1 : Int32)) := zI.w ki8 rfl (show 0 ≤ ((1 : Int32)).toInt ∧ ((1 : Int32)).toInt ≤ 1 by omega)
    have kf12 : Fr wX12_row m (sm_w1 m 72 0 (0 : Int32)) := Fr.w Fr.refl rfl
    have kf13 : Fr wX12_row m (sm_w1 (sm_w1 m 72 0 (0 : Int32)) 72 0 (1 : Int32)) := Fr.w kf12 rfl
    exact s_ret ⟨trivial, ki11, kf13⟩
  · have kx14 : 0 ≤ (x1).toInt ∧ (x1).toInt < (24 : Int) := by omega
    refine s_ix kx14 ?_
    have kf15 : Fr wX12_row m (sm_w1 m 72 0 (0 : Int32)) := Fr.w Fr.refl rfl
    exact s_ret ⟨trivial, ki8, kf15⟩
