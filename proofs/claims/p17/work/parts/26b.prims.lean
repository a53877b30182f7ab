/-! READING: what the primitives of both texts answer -/
theorem zX8_signAt_v (m : sm_S) (hI : zI m) : Sf (fun r => ((-1 : Int) ≤ r.toInt) ∧ (r.toInt ≤ 65535) ∧ ((r.toInt = -1 ∧ (m.1 1 3).toInt ≤ (m.1 1 2).toInt) ∨ ((m.1 1 2).toInt < (m.1 1 3).toInt ∧ r.toInt = (m.1 2 (m.1 1 2).toNatClampNeg).toInt))) (fX8_signAt m) := by
  have hfu := fuE
  unfold fX8_signAt
  have kc1 : 0 ≤ (m.1 1 3).toInt ∧ (m.1 1 3).toInt ≤ 76 := hI.1 1 3
  have kc2 : 0 ≤ (m.1 1 2).toInt ∧ (m.1 1 2).toInt ≤ 80 := hI.1 1 2
  refine s_le (fun kh3 => ?_) (fun kh3 => ?_)
  · have kc4 := Ln1
    exact s_ret (show ((-1 : Int) ≤ (-1 : Int32).toInt) ∧ ((-1 : Int32).toInt ≤ 65535) ∧ (((-1 : Int32).toInt = -1 ∧ (m.1 1 3).toInt ≤ (m.1 1 2).toInt) ∨ ((m.1 1 2).toInt < (m.1 1 3).toInt ∧ (-1 : Int32).toInt = (m.1 2 (m.1 1 2).toNatClampNeg).toInt)) by omega)
  · have kc5 := L80
    refine s_le (fun kh6 => ?_) (fun kh6 => ?_)
    · omega
    · have kx7 : 0 ≤ ((m.1 1 2)).toInt ∧ ((m.1 1 2)).toInt < (80 : Int) := by omega
      refine s_ix kx7 ?_
      have kc8 : 0 ≤ (m.1 2 ((m.1 1 2)).toNatClampNeg).toInt ∧ (m.1 2 ((m.1 1 2)).toNatClampNeg).toInt ≤ 65535 := hI.1 2 ((m.1 1 2)).toNatClampNeg
      exact s_ret (show ((-1 : Int) ≤ (m.1 2 ((m.1 1 2)).toNatClampNeg).toInt) ∧ ((m.1 2 ((m.1 1 2)).toNatClampNeg).toInt ≤ 65535) ∧ (((m.1 2 ((m.1 1 2)).toNatClampNeg).toInt = -1 ∧ (m.1 1 3).toInt ≤ (m.1 1 2).toInt) ∨ ((m.1 1 2).toInt < (m.1 1 3).toInt ∧ (m.1 2 ((m.1 1 2)).toNatClampNeg).toInt = (m.1 2 (m.1 1 2).toNatClampNeg).toInt)) by omega)
theorem zX8_digit_v (x1 : Int32) (m : sm_S) (hp : 5 ≤ x1.toInt ∧ x1.toInt ≤ 9) (hI : zI m) : Sf (fun r => (((-1 : Int) ≤ r.1.toInt) ∧ (r.1.toInt ≤ 9) ∧ ((r.1.toInt = -1 ∧ (r.2.1 1 2).toInt = (m.1 1 2).toInt ∧ ((m.1 1 3).toInt ≤ (m.1 1 2).toInt ∨ (m.1 2 (m.1 1 2).toNatClampNeg).toInt < 48 ∨ 48 + x1.toInt < (m.1 2 (m.1 1 2).toNatClampNeg).toInt)) ∨ (r.1.toInt = (m.1 2 (m.1 1 2).toNatClampNeg).toInt - 48 ∧ (m.1 1 2).toInt < (m.1 1 3).toInt ∧ 48 ≤ (m.1 2 (m.1 1 2).toNatClampNeg).toInt ∧ (m.1 2 (m.1 1 2).toNatClampNeg).toInt ≤ 48 + x1.toInt ∧ (r.2.1 1 2).toInt = (m.1 1 2).toInt + 1))) ∧ zI r.2 ∧ Fr wX8_digit m r.2) (fX8_digit x1 m) := by
  have hfu := fuE
  unfold fX8_digit
  refine s_bd (zX8_signAt_v m hI) (fun r2 kr1 => ?_)
  replace kr1 : ((-1 : Int) ≤ r2.toInt) ∧ (r2.toInt ≤ 65535) ∧ ((r2.toInt = -1 ∧ (m.1 1 3).toInt ≤ (m.1 1 2).toInt) ∨ ((m.1 1 2).toInt < (m.1 1 3).toInt ∧ r2.toInt = (m.1 2 (m.1 1 2).toNatClampNeg).toInt)) := kr1
  have kc2 : 0 ≤ (m.1 1 3).toInt ∧ (m.1 1 3).toInt ≤ 76 := hI.1 1 3
  have kc3 : 0 ≤ (m.1 1 2).toInt ∧ (m.1 1 2).toInt ≤ 80 := hI.1 1 2
  have kc4 : (r2 - (48 : Int32)).toInt = (r2).toInt - 48 := a_subl L48 (by omega) (by omega)
  have kc5 := L0
  refine s_lt (fun kh6 => ?_) (fun kh6 => ?_)
  · have kc7 := Ln1
    exact s_ret ⟨(show ((-1 : Int) ≤ (-1 : Int32).toInt) ∧ ((-1 : Int32).toInt ≤ 9) ∧ (((-1 : Int32).toInt = -1 ∧ (m.1 1 2).toInt = (m.1 1 2).toInt ∧ ((m.1 1 3).toInt ≤ (m.1 1 2).toInt ∨ (m.1 2 (m.1 1 2).toNatClampNeg).toInt < 48 ∨ 48 + x1.toInt < (m.1 2 (m.1 1 2).toNatClampNeg).toInt)) ∨ ((-1 : Int32).toInt = (m.1 2 (m.1 1 2).toNatClampNeg).toInt - 48 ∧ (m.1 1 2).toInt < (m.1 1 3).toInt ∧ 48 ≤ (m.1 2 (m.1 1 2).toNatClampNeg).toInt ∧ (m.1 2 (m.1 1 2).toNatClampNeg).toInt ≤ 48 + x1.toInt ∧ (m.1 1 2).toInt = (m.1 1 2).toInt + 1)) by omega), hI, Fr.refl⟩
  · refine s_le (fun kh8 => ?_) (fun kh8 => ?_)
    · have kc9 : ((m.1 1 2) + (1 : Int32)).toInt = ((m.1 1 2)).toInt + 1 := a_addl L1 (by omega) (by omega)
      have ki10 : zI (sm_w1 m 1 2 ((m.1 1 2) + (1 : Int32))) := zI.w hI rfl (show 0 ≤ (((m.1 1 2) + (1 : Int32))).toInt ∧ (((m.1 1 2) + (1 : Int32))).toInt ≤ 80 by omega)
      have kc11 : 0 ≤ ((sm_w1 m 1 2 ((m.1 1 2) + (1 : Int32))).1 1 2).toInt ∧ ((sm_w1 m 1 2 ((m.1 1 2) + (1 : Int32))).1 1 2).toInt ≤ 80 := ki10.1 1 2
      have kc12 : ((sm_w1 m 1 2 ((m.1 1 2) + (1 : Int32))).1 1 2).toInt = (((m.1 1 2) + (1 : Int32))).toInt := rfl
      have kf13 : Fr wX8_digit m (sm_w1 m 1 2 ((m.1 1 2) + (1 : Int32))) := Fr.w Fr.refl rfl
      exact s_ret ⟨(show ((-1 : Int) ≤ (r2 - (48 : Int32)).toInt) ∧ ((r2 - (48 : Int32)).toInt ≤ 9) ∧ (((r2 - (48 : Int32)).toInt = -1 ∧ ((sm_w1 m 1 2 ((m.1 1 2) + (1 : Int32))).1 1 2).toInt = (m.1 1 2).toInt ∧ ((m.1 1 3).toInt ≤ (m.1 1 2).toInt ∨ (m.1 2 (m.1 1 2).toNatClampNeg).toInt < 48 ∨ 48 + x1.toInt < (m.1 2 (m.1 1 2).toNatClampNeg).toInt)) ∨ ((r2 - (48 : Int32)).toInt = (m.1 2 (m.1 1 2).toNatClampNeg).toInt - 48 ∧ (m.1 1 2).toInt < (m.1 1 3).toInt ∧ 48 ≤ (m.1 2 (m.1 1 2).toNatClampNeg).toInt ∧ (m.1 2 (m.1 1 2).toNatClampNeg).toInt ≤ 48 + x1.toInt ∧ ((sm_w1 m 1 2 ((m.1 1 2) + (1 : Int32))).1 1 2).toInt = (m.1 1 2).toInt + 1)) by omega), ki10, kf13⟩
    · have kc14 := Ln1
      exact s_ret ⟨(show ((-1 : Int) ≤ (-1 : Int32).toInt) ∧ ((-1 : Int32).toInt ≤ 9) ∧ (((-1 : Int32).toInt = -1 ∧ (m.1 1 2).toInt = (m.1 1 2).toInt ∧ ((m.1 1 3).toInt ≤ (m.1 1 2).toInt ∨ (m.1 2 (m.1 1 2).toNatClampNeg).toInt < 48 ∨ 48 + x1.toInt < (m.1 2 (m.1 1 2).toNatClampNeg).toInt)) ∨ ((-1 : Int32).toInt = (m.1 2 (m.1 1 2).toNatClampNeg).toInt - 48 ∧ (m.1 1 2).toInt < (m.1 1 3).toInt ∧ 48 ≤ (m.1 2 (m.1 1 2).toNatClampNeg).toInt ∧ (m.1 2 (m.1 1 2).toNatClampNeg).toInt ≤ 48 + x1.toInt ∧ (m.1 1 2).toInt = (m.1 1 2).toInt + 1)) by omega), hI, Fr.refl⟩
theorem zX8_skip_v (x1 : Int32) (m : sm_S) (hp : 58 ≤ x1.toInt ∧ x1.toInt ≤ 126) (hI : zI m) : Sf (fun r => ((0 ≤ r.1.toInt) ∧ (r.1.toInt ≤ 1) ∧ ((r.1.toInt = 0 ∧ (r.2.1 1 2).toInt = (m.1 1 2).toInt ∧ ((m.1 1 3).toInt ≤ (m.1 1 2).toInt ∨ (m.1 2 (m.1 1 2).toNatClampNeg).toInt ≠ x1.toInt)) ∨ (r.1.toInt = 1 ∧ (m.1 1 2).toInt < (m.1 1 3).toInt ∧ (m.1 2 (m.1 1 2).toNatClampNeg).toInt = x1.toInt ∧ (r.2.1 1 2).toInt = (m.1 1 2).toInt + 1))) ∧ zI r.2 ∧ Fr wX8_skip m r.2) (fX8_skip x1 m) := by
  have hfu := fuE
  unfold fX8_skip
  refine s_bd (zX8_signAt_v m hI) (fun r2 kr1 => ?_)
  replace kr1 : ((-1 : Int) ≤ r2.toInt) ∧ (r2.toInt ≤ 65535) ∧ ((r2.toInt = -1 ∧ (m.1 1 3).toInt ≤ (m.1 1 2).toInt) ∨ ((m.1 1 2).toInt < (m.1 1 3).toInt ∧ r2.toInt = (m.1 2 (m.1 1 2).toNatClampNeg).toInt)) := kr1
  have kc2 : 0 ≤ (m.1 1 3).toInt ∧ (m.1 1 3).toInt ≤ 76 := hI.1 1 3
  have kc3 : 0 ≤ (m.1 1 2).toInt ∧ (m.1 1 2).toInt ≤ 80 := hI.1 1 2
  refine s_eq (fun kh4 => ?_) (fun kh4 => ?_)
  · have kc5 := L1
    have kc6 : ((m.1 1 2) + (1 : Int32)).toInt = ((m.1 1 2)).toInt + 1 := a_addl L1 (by omega) (by omega)
    have ki7 : zI (sm_w1 m 1 2 ((m.1 1 2) + (1 : Int32))) := zI.w hI rfl (show 0 ≤ (((m.1 1 2) + (1 : Int32))).toInt ∧ (((m.1 1 2) + (1 : Int32))).toInt ≤ 80 by omega)
    have kc8 : 0 ≤ ((sm_w1 m 1 2 ((m.1 1 2) + (1 : Int32))).1 1 2).toInt ∧ ((sm_w1 m 1 2 ((m.1 1 2) + (1 : Int32))).1 1 2).toInt ≤ 80 := ki7.1 1 2
    have kc9 : ((sm_w1 m 1 2 ((m.1 1 2) + (1 : Int32))).1 1 2).toInt = (((m.1 1 2) + (1 : Int32))).toInt := rfl
    have kf10 : Fr wX8_skip m (sm_w1 m 1 2 ((m.1 1 2) + (1 : Int32))) := Fr.w Fr.refl rfl
    exact s_ret ⟨(show (0 ≤ (1 : Int32).toInt) ∧ ((1 : Int32).toInt ≤ 1) ∧ (((1 : Int32).toInt = 0 ∧ ((sm_w1 m 1 2 ((m.1 1 2) + (1 : Int32))).1 1 2).toInt = (m.1 1 2).toInt ∧ ((m.1 1 3).toInt ≤ (m.1 1 2).toInt ∨ (m.1 2 (m.1 1 2).toNatClampNeg).toInt ≠ x1.toInt)) ∨ ((1 : Int32).toInt = 1 ∧ (m.1 1 2).toInt < (m.1 1 3).toInt ∧ (m.1 2 (m.1 1 2).toNatClampNeg).toInt = x1.toInt ∧ ((sm_w1 m 1 2 ((m.1 1 2) + (1 : Int32))).1 1 2).toInt = (m.1 1 2).toInt + 1)) by omega), ki7, kf10⟩
  · have kc11 := L0
    exact s_ret ⟨(show (0 ≤ (0 : Int32).toInt) ∧ ((0 : Int32).toInt ≤ 1) ∧ (((0 : Int32).toInt = 0 ∧ (m.1 1 2).toInt = (m.1 1 2).toInt ∧ ((m.1 1 3).toInt ≤ (m.1 1 2).toInt ∨ (m.1 2 (m.1 1 2).toNatClampNeg).toInt ≠ x1.toInt)) ∨ ((0 : Int32).toInt = 1 ∧ (m.1 1 2).toInt < (m.1 1 3).toInt ∧ (m.1 2 (m.1 1 2).toNatClampNeg).toInt = x1.toInt ∧ (m.1 1 2).toInt = (m.1 1 2).toInt + 1)) by omega), hI, Fr.refl⟩
theorem zX8_cornerLetter_v (x1 : Int32) (m : sm_S) (hp : (-1 : Int) ≤ x1.toInt ∧ x1.toInt ≤ 9) (hI : zI m) : Sf (fun r => (((-1 : Int) ≤ r.1.toInt) ∧ (r.1.toInt ≤ 9) ∧ ((r.1.toInt = -1 ∧ (r.2.1 1 2).toInt = (m.1 1 2).toInt ∧ ((m.1 1 3).toInt ≤ (m.1 1 2).toInt ∨ (m.1 2 (m.1 1 2).toNatClampNeg).toInt < 97 ∨ (m.1 1 4).toInt ≤ (m.1 2 (m.1 1 2).toNatClampNeg).toInt - 97 ∨ (m.1 2 (m.1 1 2).toNatClampNeg).toInt - 97 = x1.toInt)) ∨ (r.1.toInt = (m.1 2 (m.1 1 2).toNatClampNeg).toInt - 97 ∧ (m.1 1 2).toInt < (m.1 1 3).toInt ∧ 97 ≤ (m.1 2 (m.1 1 2).toNatClampNeg).toInt ∧ (m.1 2 (m.1 1 2).toNatClampNeg).toInt - 97 < (m.1 1 4).toInt ∧ (m.1 2 (m.1 1 2).toNatClampNeg).toInt - 97 ≠ x1.toInt ∧ (r.2.1 1 2).toInt = (m.1 1 2).toInt + 1))) ∧ zI r.2 ∧ Fr wX8_cornerLetter m r.2) (fX8_cornerLetter x1 m) := by
  have hfu := fuE
  unfold fX8_cornerLetter
  refine s_bd (zX8_signAt_v m hI) (fun r2 kr1 => ?_)
  replace kr1 : ((-1 : Int) ≤ r2.toInt) ∧ (r2.toInt ≤ 65535) ∧ ((r2.toInt = -1 ∧ (m.1 1 3).toInt ≤ (m.1 1 2).toInt) ∨ ((m.1 1 2).toInt < (m.1 1 3).toInt ∧ r2.toInt = (m.1 2 (m.1 1 2).toNatClampNeg).toInt)) := kr1
  have kc2 : 0 ≤ (m.1 1 3).toInt ∧ (m.1 1 3).toInt ≤ 76 := hI.1 1 3
  have kc3 : 0 ≤ (m.1 1 2).toInt ∧ (m.1 1 2).toInt ≤ 80 := hI.1 1 2
  have kc4 : (r2 - (97 : Int32)).toInt = (r2).toInt - 97 := a_subl L97 (by omega) (by omega)
  have kc5 := L0
  refine s_lt (fun kh6 => ?_) (fun kh6 => ?_)
  · have kc7 := Ln1
    have kc8 : 0 ≤ (m.1 1 4).toInt ∧ (m.1 1 4).toInt ≤ 10 := hI.1 1 4
    exact s_ret ⟨(show ((-1 : Int) ≤ (-1 : Int32).toInt) ∧ ((-1 : Int32).toInt ≤ 9) ∧ (((-1 : Int32).toInt = -1 ∧ (m.1 1 2).toInt = (m.1 1 2).toInt ∧ ((m.1 1 3).toInt ≤ (m.1 1 2).toInt ∨ (m.1 2 (m.1 1 2).toNatClampNeg).toInt < 97 ∨ (m.1 1 4).toInt ≤ (m.1 2 (m.1 1 2).toNatClampNeg).toInt - 97 ∨ (m.1 2 (m.1 1 2).toNatClampNeg).toInt - 97 = x1.toInt)) ∨ ((-1 : Int32).toInt = (m.1 2 (m.1 1 2).toNatClampNeg).toInt - 97 ∧ (m.1 1 2).toInt < (m.1 1 3).toInt ∧ 97 ≤ (m.1 2 (m.1 1 2).toNatClampNeg).toInt ∧ (m.1 2 (m.1 1 2).toNatClampNeg).toInt - 97 < (m.1 1 4).toInt ∧ (m.1 2 (m.1 1 2).toNatClampNeg).toInt - 97 ≠ x1.toInt ∧ (m.1 1 2).toInt = (m.1 1 2).toInt + 1)) by omega), hI, Fr.refl⟩
  · have kc9 : 0 ≤ (m.1 1 4).toInt ∧ (m.1 1 4).toInt ≤ 10 := hI.1 1 4
    refine s_le (fun kh10 => ?_) (fun kh10 => ?_)
    · have kc11 := Ln1
      exact s_ret ⟨(show ((-1 : Int) ≤ (-1 : Int32).toInt) ∧ ((-1 : Int32).toInt ≤ 9) ∧ (((-1 : Int32).toInt = -1 ∧ (m.1 1 2).toInt = (m.1 1 2).toInt ∧ ((m.1 1 3).toInt ≤ (m.1 1 2).toInt ∨ (m.1 2 (m.1 1 2).toNatClampNeg).toInt < 97 ∨ (m.1 1 4).toInt ≤ (m.1 2 (m.1 1 2).toNatClampNeg).toInt - 97 ∨ (m.1 2 (m.1 1 2).toNatClampNeg).toInt - 97 = x1.toInt)) ∨ ((-1 : Int32).toInt = (m.1 2 (m.1 1 2).toNatClampNeg).toInt - 97 ∧ (m.1 1 2).toInt < (m.1 1 3).toInt ∧ 97 ≤ (m.1 2 (m.1 1 2).toNatClampNeg).toInt ∧ (m.1 2 (m.1 1 2).toNatClampNeg).toInt - 97 < (m.1 1 4).toInt ∧ (m.1 2 (m.1 1 2).toNatClampNeg).toInt - 97 ≠ x1.toInt ∧ (m.1 1 2).toInt = (m.1 1 2).toInt + 1)) by omega), hI, Fr.refl⟩
    · refine s_eq (fun kh12 => ?_) (fun kh12 => ?_)
      · have kc13 := Ln1
        exact s_ret ⟨(show ((-1 : Int) ≤ (-1 : Int32).toInt) ∧ ((-1 : Int32).toInt ≤ 9) ∧ (((-1 : Int32).toInt = -1 ∧ (m.1 1 2).toInt = (m.1 1 2).toInt ∧ ((m.1 1 3).toInt ≤ (m.1 1 2).toInt ∨ (m.1 2 (m.1 1 2).toNatClampNeg).toInt < 97 ∨ (m.1 1 4).toInt ≤ (m.1 2 (m.1 1 2).toNatClampNeg).toInt - 97 ∨ (m.1 2 (m.1 1 2).toNatClampNeg).toInt - 97 = x1.toInt)) ∨ ((-1 : Int32).toInt = (m.1 2 (m.1 1 2).toNatClampNeg).toInt - 97 ∧ (m.1 1 2).toInt < (m.1 1 3).toInt ∧ 97 ≤ (m.1 2 (m.1 1 2).toNatClampNeg).toInt ∧ (m.1 2 (m.1 1 2).toNatClampNeg).toInt - 97 < (m.1 1 4).toInt ∧ (m.1 2 (m.1 1 2).toNatClampNeg).toInt - 97 ≠ x1.toInt ∧ (m.1 1 2).toInt = (m.1 1 2).toInt + 1)) by omega), hI, Fr.refl⟩
      · have kc14 : ((m.1 1 2) + (1 : Int32)).toInt = ((m.1 1 2)).toInt + 1 := a_addl L1 (by omega) (by omega)
        have ki15 : zI (sm_w1 m 1 2 ((m.1 1 2) + (1 : Int32))) := zI.w hI rfl (show 0 ≤ (((m.1 1 2) + (1 : Int32))).toInt ∧ (((m.1 1 2) + (1 : Int32))).toInt ≤ 80 by omega)
        have kc16 : 0 ≤ ((sm_w1 m 1 2 ((m.1 1 2) + (1 : Int32))).1 1 2).toInt ∧ ((sm_w1 m 1 2 ((m.1 1 2) + (1 : Int32))).1 1 2).toInt ≤ 80 := ki15.1 1 2
        have kc17 : ((sm_w1 m 1 2 ((m.1 1 2) + (1 : Int32))).1 1 2).toInt = (((m.1 1 2) + (1 : Int32))).toInt := rfl
        have kf18 : Fr wX8_cornerLetter m (sm_w1 m 1 2 ((m.1 1 2) + (1 : Int32))) := Fr.w Fr.refl rfl
        exact s_ret ⟨(show ((-1 : Int) ≤ (r2 - (97 : Int32)).toInt) ∧ ((r2 - (97 : Int32)).toInt ≤ 9) ∧ (((r2 - (97 : Int32)).toInt = -1 ∧ ((sm_w1 m 1 2 ((m.1 1 2) + (1 : Int32))).1 1 2).toInt = (m.1 1 2).toInt ∧ ((m.1 1 3).toInt ≤ (m.1 1 2).toInt ∨ (m.1 2 (m.1 1 2).toNatClampNeg).toInt < 97 ∨ (m.1 1 4).toInt ≤ (m.1 2 (m.1 1 2).toNatClampNeg).toInt - 97 ∨ (m.1 2 (m.1 1 2).toNatClampNeg).toInt - 97 = x1.toInt)) ∨ ((r2 - (97 : Int32)).toInt = (m.1 2 (m.1 1 2).toNatClampNeg).toInt - 97 ∧ (m.1 1 2).toInt < (m.1 1 3).toInt ∧ 97 ≤ (m.1 2 (m.1 1 2).toNatClampNeg).toInt ∧ (m.1 2 (m.1 1 2).toNatClampNeg).toInt - 97 < (m.1 1 4).toInt ∧ (m.1 2 (m.1 1 2).toNatClampNeg).toInt - 97 ≠ x1.toInt ∧ ((sm_w1 m 1 2 ((m.1 1 2) + (1 : Int32))).1 1 2).toInt = (m.1 1 2).toInt + 1)) by omega), ki15, kf18⟩
theorem zX12_isDigit_v (m : sm_S) (hI : zI m) : Sf (fun r => (0 ≤ r.toInt) ∧ (r.toInt ≤ 1) ∧ ((r.toInt = 0 ∧ ((m.1 72 23).toInt ≤ (m.1 72 22).toInt ∨ (m.1 84 (m.1 72 22).toNatClampNeg).toInt < 48 ∨ 57 < (m.1 84 (m.1 72 22).toNatClampNeg).toInt)) ∨ (r.toInt = 1 ∧ (m.1 72 22).toInt < (m.1 72 23).toInt ∧ 48 ≤ (m.1 84 (m.1 72 22).toNatClampNeg).toInt ∧ (m.1 84 (m.1 72 22).toNatClampNeg).toInt ≤ 57))) (fX12_isDigit m) := by
  have hfu := fuE
  unfold fX12_isDigit
  have kc1 : 0 ≤ (m.1 72 23).toInt ∧ (m.1 72 23).toInt ≤ 76 := hI.1 72 23
  have kc2 : 0 ≤ (m.1 72 22).toInt ∧ (m.1 72 22).toInt ≤ 80 := hI.1 72 22
  refine s_le (fun kh3 => ?_) (fun kh3 => ?_)
  · have kc4 := L0
    exact s_ret (show (0 ≤ (0 : Int32).toInt) ∧ ((0 : Int32).toInt ≤ 1) ∧ (((0 : Int32).toInt = 0 ∧ ((m.1 72 23).toInt ≤ (m.1 72 22).toInt ∨ (m.1 84 (m.1 72 22).toNatClampNeg).toInt < 48 ∨ 57 < (m.1 84 (m.1 72 22).toNatClampNeg).toInt)) ∨ ((0 : Int32).toInt = 1 ∧ (m.1 72 22).toInt < (m.1 72 23).toInt ∧ 48 ≤ (m.1 84 (m.1 72 22).toNatClampNeg).toInt ∧ (m.1 84 (m.1 72 22).toNatClampNeg).toInt ≤ 57)) by omega)
  · have kx5 : 0 ≤ ((m.1 72 22)).toInt ∧ ((m.1 72 22)).toInt < (80 : Int) := by omega
    refine s_ix kx5 ?_
    have kc6 : 0 ≤ (m.1 84 ((m.1 72 22)).toNatClampNeg).toInt ∧ (m.1 84 ((m.1 72 22)).toNatClampNeg).toInt ≤ 255 := hI.1 84 ((m.1 72 22)).toNatClampNeg
    have kc7 : ((m.1 84 ((m.1 72 22)).toNatClampNeg)).toInt64.toInt = ((m.1 84 ((m.1 72 22)).toNatClampNeg)).toInt := Int32.toInt_toInt64 _
    have kc8 := LL48
    have kc9 := LL57
    refine s_bd (zX12_in ((m.1 84 ((m.1 72 22)).toNatClampNeg)).toInt64 (48 : Int64) (57 : Int64) m (show (-1 : Int) ≤ (48 : Int64).toInt ∧ (48 : Int64).toInt ≤ 48 ∧ (-1 : Int) ≤ (57 : Int64).toInt ∧ (57 : Int64).toInt ≤ 9999 by omega) hI) (fun r3 kr10 => ?_)
    replace kr10 : (0 ≤ r3.toInt) ∧ (r3.toInt ≤ 1) ∧ ((r3.toInt = 0 ∧ (((m.1 84 ((m.1 72 22)).toNatClampNeg)).toInt64.toInt < (48 : Int64).toInt ∨ (57 : Int64).toInt < ((m.1 84 ((m.1 72 22)).toNatClampNeg)).toInt64.toInt)) ∨ (r3.toInt = 1 ∧ (48 : Int64).toInt ≤ ((m.1 84 ((m.1 72 22)).toNatClampNeg)).toInt64.toInt ∧ ((m.1 84 ((m.1 72 22)).toNatClampNeg)).toInt64.toInt ≤ (57 : Int64).toInt)) := kr10
    have kc11 := L0
    refine s_eq (fun kh12 => ?_) (fun kh12 => ?_)
    · exact s_ret (show (0 ≤ (0 : Int32).toInt) ∧ ((0 : Int32).toInt ≤ 1) ∧ (((0 : Int32).toInt = 0 ∧ ((m.1 72 23).toInt ≤ (m.1 72 22).toInt ∨ (m.1 84 (m.1 72 22).toNatClampNeg).toInt < 48 ∨ 57 < (m.1 84 (m.1 72 22).toNatClampNeg).toInt)) ∨ ((0 : Int32).toInt = 1 ∧ (m.1 72 22).toInt < (m.1 72 23).toInt ∧ 48 ≤ (m.1 84 (m.1 72 22).toNatClampNeg).toInt ∧ (m.1 84 (m.1 72 22).toNatClampNeg).toInt ≤ 57)) by omega)
    · have kc13 := L1
      exact s_ret (show (0 ≤ (1 : Int32).toInt) ∧ ((1 : Int32).toInt ≤ 1) ∧ (((1 : Int32).toInt = 0 ∧ ((m.1 72 23).toInt ≤ (m.1 72 22).toInt ∨ (m.1 84 (m.1 72 22).toNatClampNeg).toInt < 48 ∨ 57 < (m.1 84 (m.1 72 22).toNatClampNeg).toInt)) ∨ ((1 : Int32).toInt = 1 ∧ (m.1 72 22).toInt < (m.1 72 23).toInt ∧ 48 ≤ (m.1 84 (m.1 72 22).toNatClampNeg).toInt ∧ (m.1 84 (m.1 72 22).toNatClampNeg).toInt ≤ 57)) by omega)
theorem zX12_digit_v (x1 : Int32) (m : sm_S) (hp : 5 ≤ x1.toInt ∧ x1.toInt ≤ 9) (hI : zI m) : Sf (fun r => (((-1 : Int) ≤ r.1.toInt) ∧ (r.1.toInt ≤ 9) ∧ ((r.1.toInt = -1 ∧ (r.2.1 72 22).toInt = (m.1 72 22).toInt ∧ ((m.1 72 23).toInt ≤ (m.1 72 22).toInt ∨ (m.1 84 (m.1 72 22).toNatClampNeg).toInt < 48 ∨ 48 + x1.toInt < (m.1 84 (m.1 72 22).toNatClampNeg).toInt)) ∨ (r.1.toInt = (m.1 84 (m.1 72 22).toNatClampNeg).toInt - 48 ∧ (m.1 72 22).toInt < (m.1 72 23).toInt ∧ 48 ≤ (m.1 84 (m.1 72 22).toNatClampNeg).toInt ∧ (m.1 84 (m.1 72 22).toNatClampNeg).toInt ≤ 48 + x1.toInt ∧ (r.2.1 72 22).toInt = (m.1 72 22).toInt + 1))) ∧ zI r.2 ∧ Fr wX12_digit m r.2) (fX12_digit x1 m) := by
  have hfu := fuE
  unfold fX12_digit
  simp only [a_asc]
  refine s_bd (zX12_isDigit_v m hI) (fun r2 kr1 => ?_)
  replace kr1 : (0 ≤ r2.toInt) ∧ (r2.toInt ≤ 1) ∧ ((r2.toInt = 0 ∧ ((m.1 72 23).toInt ≤ (m.1 72 22).toInt ∨ (m.1 84 (m.1 72 22).toNatClampNeg).toInt < 48 ∨ 57 < (m.1 84 (m.1 72 22).toNatClampNeg).toInt)) ∨ (r2.toInt = 1 ∧ (m.1 72 22).toInt < (m.1 72 23).toInt ∧ 48 ≤ (m.1 84 (m.1 72 22).toNatClampNeg).toInt ∧ (m.1 84 (m.1 72 22).toNatClampNeg).toInt ≤ 57)) := kr1
  have kc2 : 0 ≤ (m.1 72 22).toInt ∧ (m.1 72 22).toInt ≤ 80 := hI.1 72 22
  have kc3 : 0 ≤ (m.1 72 23).toInt ∧ (m.1 72 23).toInt ≤ 76 := hI.1 72 23
  have kc4 := L48
  have kc5 : 0 ≤ (m.1 84 ((m.1 72 22)).toNatClampNeg).toInt ∧ (m.1 84 ((m.1 72 22)).toNatClampNeg).toInt ≤ 255 := hI.1 84 ((m.1 72 22)).toNatClampNeg
  have kc6 := L57
  have kc7 := L0
  refine s_eq (fun kh8 => ?_) (fun kh8 => ?_)
  · have kc9 := Ln1
    exact s_ret ⟨(show ((-1 : Int) ≤ (-1 : Int32).toInt) ∧ ((-1 : Int32).toInt ≤ 9) ∧ (((-1 : Int32).toInt = -1 ∧ (m.1 72 22).toInt = (m.1 72 22).toInt ∧ ((m.1 72 23).toInt ≤ (m.1 72 22).toInt ∨ (m.1 84 (m.1 72 22).toNatClampNeg).toInt < 48 ∨ 48 + x1.toInt < (m.1 84 (m.1 72 22).toNatClampNeg).toInt)) ∨ ((-1 : Int32).toInt = (m.1 84 (m.1 72 22).toNatClampNeg).toInt - 48 ∧ (m.1 72 22).toInt < (m.1 72 23).toInt ∧ 48 ≤ (m.1 84 (m.1 72 22).toNatClampNeg).toInt ∧ (m.1 84 (m.1 72 22).toNatClampNeg).toInt ≤ 48 + x1.toInt ∧ (m.1 72 22).toInt = (m.1 72 22).toInt + 1)) by omega), hI, Fr.refl⟩
  · have kx10 : 0 ≤ ((m.1 72 22)).toInt ∧ ((m.1 72 22)).toInt < (80 : Int) := by omega
    refine s_ix kx10 ?_
    have kc11 : ((m.1 84 ((m.1 72 22)).toNatClampNeg) - (48 : Int32)).toInt = ((m.1 84 ((m.1 72 22)).toNatClampNeg)).toInt - 48 := a_subl L48 (by omega) (by omega)
    refine s_le (fun kh12 => ?_) (fun kh12 => ?_)
    · refine s_ix kx10 ?_
      have kc13 : ((m.1 72 22) + (1 : Int32)).toInt = ((m.1 72 22)).toInt + 1 := a_addl L1 (by omega) (by omega)
      have ki14 : zI (sm_w1 m 72 22 ((m.1 72 22) + (1 : Int32))) := zI.w hI rfl (show 0 ≤ (((m.1 72 22) + (1 : Int32))).toInt ∧ (((m.1 72 22) + (1 : Int32))).toInt ≤ 80 by omega)
      have kc15 : 0 ≤ ((sm_w1 m 72 22 ((m.1 72 22) + (1 : Int32))).1 72 22).toInt ∧ ((sm_w1 m 72 22 ((m.1 72 22) + (1 : Int32))).1 72 22).toInt ≤ 80 := ki14.1 72 22
      have kc16 : ((sm_w1 m 72 22 ((m.1 72 22) + (1 : Int32))).1 72 22).toInt = (((m.1 72 22) + (1 : Int32))).toInt := rfl
      have kf17 : Fr wX12_digit m (sm_w1 m 72 22 ((m.1 72 22) + (1 : Int32))) := Fr.w Fr.refl rfl
      exact s_ret ⟨(show ((-1 : Int) ≤ ((m.1 84 ((m.1 72 22)).toNatClampNeg) - (48 : Int32)).toInt) ∧ (((m.1 84 ((m.1 72 22)).toNatClampNeg) - (48 : Int32)).toInt ≤ 9) ∧ ((((m.1 84 ((m.1 72 22)).toNatClampNeg) - (48 : Int32)).toInt = -1 ∧ ((sm_w1 m 72 22 ((m.1 72 22) + (1 : Int32))).1 72 22).toInt = (m.1 72 22).toInt ∧ ((m.1 72 23).toInt ≤ (m.1 72 22).toInt ∨ (m.1 84 (m.1 72 22).toNatClampNeg).toInt < 48 ∨ 48 + x1.toInt < (m.1 84 (m.1 72 22).toNatClampNeg).toInt)) ∨ (((m.1 84 ((m.1 72 22)).toNatClampNeg) - (48 : Int32)).toInt = (m.1 84 (m.1 72 22).toNatClampNeg).toInt - 48 ∧ (m.1 72 22).toInt < (m.1 72 23).toInt ∧ 48 ≤ (m.1 84 (m.1 72 22).toNatClampNeg).toInt ∧ (m.1 84 (m.1 72 22).toNatClampNeg).toInt ≤ 48 + x1.toInt ∧ ((sm_w1 m 72 22 ((m.1 72 22) + (1 : Int32))).1 72 22).toInt = (m.1 72 22).toInt + 1)) by omega), ki14, kf17⟩
    · have kc18 := Ln1
      exact s_ret ⟨(show ((-1 : Int) ≤ (-1 : Int32).toInt) ∧ ((-1 : Int32).toInt ≤ 9) ∧ (((-1 : Int32).toInt = -1 ∧ (m.1 72 22).toInt = (m.1 72 22).toInt ∧ ((m.1 72 23).toInt ≤ (m.1 72 22).toInt ∨ (m.1 84 (m.1 72 22).toNatClampNeg).toInt < 48 ∨ 48 + x1.toInt < (m.1 84 (m.1 72 22).toNatClampNeg).toInt)) ∨ ((-1 : Int32).toInt = (m.1 84 (m.1 72 22).toNatClampNeg).toInt - 48 ∧ (m.1 72 22).toInt < (m.1 72 23).toInt ∧ 48 ≤ (m.1 84 (m.1 72 22).toNatClampNeg).toInt ∧ (m.1 84 (m.1 72 22).toNatClampNeg).toInt ≤ 48 + x1.toInt ∧ (m.1 72 22).toInt = (m.1 72 22).toInt + 1)) by omega), hI, Fr.refl⟩
theorem zX12_takes_v (x1 : Int32) (m : sm_S) (hp : 58 ≤ x1.toInt ∧ x1.toInt ≤ 126) (hI : zI m) : Sf (fun r => ((0 ≤ r.1.toInt) ∧ (r.1.toInt ≤ 1) ∧ ((r.1.toInt = 0 ∧ (r.2.1 72 22).toInt = (m.1 72 22).toInt ∧ ((m.1 72 23).toInt ≤ (m.1 72 22).toInt ∨ (m.1 84 (m.1 72 22).toNatClampNeg).toInt ≠ x1.toInt)) ∨ (r.1.toInt = 1 ∧ (m.1 72 22).toInt < (m.1 72 23).toInt ∧ (m.1 84 (m.1 72 22).toNatClampNeg).toInt = x1.toInt ∧ (r.2.1 72 22).toInt = (m.1 72 22).toInt + 1))) ∧ zI r.2 ∧ Fr wX12_takes m r.2) (fX12_takes x1 m) := by
  have hfu := fuE
  unfold fX12_takes
  have kc1 : 0 ≤ (m.1 72 23).toInt ∧ (m.1 72 23).toInt ≤ 76 := hI.1 72 23
  have kc2 : 0 ≤ (m.1 72 22).toInt ∧ (m.1 72 22).toInt ≤ 80 := hI.1 72 22
  refine s_le (fun kh3 => ?_) (fun kh3 => ?_)
  · have kc4 := L0
    refine s_bd (zX12_flag (0 : Int32) m (show 0 ≤ (0 : Int32).toInt ∧ (0 : Int32).toInt ≤ 1 by omega) hI) (fun r2 kr5 => ?_)
    replace kr5 : (0 ≤ r2.toInt) ∧ (r2.toInt ≤ 1) ∧ (r2.toInt = (0 : Int32).toInt) := kr5
    have kc6 : ((m.1 72 22) + r2).toInt = ((m.1 72 22)).toInt + (r2).toInt := a_add (by omega) (by omega)
    have ki7 : zI (sm_w1 m 72 22 ((m.1 72 22) + r2)) := zI.w hI rfl (show 0 ≤ (((m.1 72 22) + r2)).toInt ∧ (((m.1 72 22) + r2)).toInt ≤ 80 by omega)
    have kc8 : 0 ≤ ((sm_w1 m 72 22 ((m.1 72 22) + r2)).1 72 22).toInt ∧ ((sm_w1 m 72 22 ((m.1 72 22) + r2)).1 72 22).toInt ≤ 80 := ki7.1 72 22
    have kc9 : ((sm_w1 m 72 22 ((m.1 72 22) + r2)).1 72 22).toInt = (((m.1 72 22) + r2)).toInt := rfl
    have kf10 : Fr wX12_takes m (sm_w1 m 72 22 ((m.1 72 22) + r2)) := Fr.w Fr.refl rfl
    exact s_ret ⟨(show (0 ≤ (0 : Int32).toInt) ∧ ((0 : Int32).toInt ≤ 1) ∧ (((0 : Int32).toInt = 0 ∧ ((sm_w1 m 72 22 ((m.1 72 22) + r2)).1 72 22).toInt = (m.1 72 22).toInt ∧ ((m.1 72 23).toInt ≤ (m.1 72 22).toInt ∨ (m.1 84 (m.1 72 22).toNatClampNeg).toInt ≠ x1.toInt)) ∨ ((0 : Int32).toInt = 1 ∧ (m.1 72 22).toInt < (m.1 72 23).toInt ∧ (m.1 84 (m.1 72 22).toNatClampNeg).toInt = x1.toInt ∧ ((sm_w1 m 72 22 ((m.1 72 22) + r2)).1 72 22).toInt = (m.1 72 22).toInt + 1)) by omega), ki7, kf10⟩
  · have kx11 : 0 ≤ ((m.1 72 22)).toInt ∧ ((m.1 72 22)).toInt < (80 : Int) := by omega
    refine s_ix kx11 ?_
    have kc12 : 0 ≤ (m.1 84 ((m.1 72 22)).toNatClampNeg).toInt ∧ (m.1 84 ((m.1 72 22)).toNatClampNeg).toInt ≤ 255 := hI.1 84 ((m.1 72 22)).toNatClampNeg
    refine s_eq (fun kh13 => ?_) (fun kh13 => ?_)
    · have kc14 := L1
      refine s_bd (zX12_flag (1 : Int32) m (show 0 ≤ (1 : Int32).toInt ∧ (1 : Int32).toInt ≤ 1 by omega) hI) (fun r7 kr15 => ?_)
      replace kr15 : (0 ≤ r7.toInt) ∧ (r7.toInt ≤ 1) ∧ (r7.toInt = (1 : Int32).toInt) := kr15
      have kc16 : ((m.1 72 22) + r7).toInt = ((m.1 72 22)).toInt + (r7).toInt := a_add (by omega) (by omega)
      have ki17 : zI (sm_w1 m 72 22 ((m.1 72 22) + r7)) := zI.w hI rfl (show 0 ≤ (((m.1 72 22) + r7)).toInt ∧ (((m.1 72 22) + r7)).toInt ≤ 80 by omega)
      have kc18 : 0 ≤ ((sm_w1 m 72 22 ((m.1 72 22) + r7)).1 72 22).toInt ∧ ((sm_w1 m 72 22 ((m.1 72 22) + r7)).1 72 22).toInt ≤ 80 := ki17.1 72 22
      have kc19 : ((sm_w1 m 72 22 ((m.1 72 22) + r7)).1 72 22).toInt = (((m.1 72 22) + r7)).toInt := rfl
      have kf20 : Fr wX12_takes m (sm_w1 m 72 22 ((m.1 72 22) + r7)) := Fr.w Fr.refl rfl
      exact s_ret ⟨(show (0 ≤ (1 : Int32).toInt) ∧ ((1 : Int32).toInt ≤ 1) ∧ (((1 : Int32).toInt = 0 ∧ ((sm_w1 m 72 22 ((m.1 72 22) + r7)).1 72 22).toInt = (m.1 72 22).toInt ∧ ((m.1 72 23).toInt ≤ (m.1 72 22).toInt ∨ (m.1 84 (m.1 72 22).toNatClampNeg).toInt ≠ x1.toInt)) ∨ ((1 : Int32).toInt = 1 ∧ (m.1 72 22).toInt < (m.1 72 23).toInt ∧ (m.1 84 (m.1 72 22).toNatClampNeg).toInt = x1.toInt ∧ ((sm_w1 m 72 22 ((m.1 72 22) + r7)).1 72 22).toInt = (m.1 72 22).toInt + 1)) by omega), ki17, kf20⟩
    · have kc21 := L0
      refine s_bd (zX12_flag (0 : Int32) m (show 0 ≤ (0 : Int32).toInt ∧ (0 : Int32).toInt ≤ 1 by omega) hI) (fun r5 kr22 => ?_)
      replace kr22 : (0 ≤ r5.toInt) ∧ (r5.toInt ≤ 1) ∧ (r5.toInt = (0 : Int32).toInt) := kr22
      have kc23 : ((m.1 72 22) + r5).toInt = ((m.1 72 22)).toInt + (r5).toInt := a_add (by omega) (by omega)
      have ki24 : zI (sm_w1 m 72 22 ((m.1 72 22) + r5)) := zI.w hI rfl (show 0 ≤ (((m.1 72 22) + r5)).toInt ∧ (((m.1 72 22) + r5)).toInt ≤ 80 by omega)
      have kc25 : 0 ≤ ((sm_w1 m 72 22 ((m.1 72 22) + r5)).1 72 22).toInt ∧ ((sm_w1 m 72 22 ((m.1 72 22) + r5)).1 72 22).toInt ≤ 80 := ki24.1 72 22
      have kc26 : ((sm_w1 m 72 22 ((m.1 72 22) + r5)).1 72 22).toInt = (((m.1 72 22) + r5)).toInt := rfl
      have kf27 : Fr wX12_takes m (sm_w1 m 72 22 ((m.1 72 22) + r5)) := Fr.w Fr.refl rfl
      exact s_ret ⟨(show (0 ≤ (0 : Int32).toInt) ∧ ((0 : Int32).toInt ≤ 1) ∧ (((0 : Int32).toInt = 0 ∧ ((sm_w1 m 72 22 ((m.1 72 22) + r5)).1 72 22).toInt = (m.1 72 22).toInt ∧ ((m.1 72 23).toInt ≤ (m.1 72 22).toInt ∨ (m.1 84 (m.1 72 22).toNatClampNeg).toInt ≠ x1.toInt)) ∨ ((0 : Int32).toInt = 1 ∧ (m.1 72 22).toInt < (m.1 72 23).toInt ∧ (m.1 84 (m.1 72 22).toNatClampNeg).toInt = x1.toInt ∧ ((sm_w1 m 72 22 ((m.1 72 22) + r5)).1 72 22).toInt = (m.1 72 22).toInt + 1)) by omega), ki24, kf27⟩
theorem zX12_cornerBut_v (x1 : Int32) (m : sm_S) (hp : (-1 : Int) ≤ x1.toInt ∧ x1.toInt ≤ 9) (hI : zI m) : Sf (fun r => (((-1 : Int) ≤ r.1.toInt) ∧ (r.1.toInt ≤ 9) ∧ ((r.1.toInt = -1 ∧ (r.2.1 72 22).toInt = (m.1 72 22).toInt ∧ ((m.1 72 23).toInt ≤ (m.1 72 22).toInt ∨ (m.1 84 (m.1 72 22).toNatClampNeg).toInt < 97 ∨ (m.1 72 24).toInt ≤ (m.1 84 (m.1 72 22).toNatClampNeg).toInt - 97 ∨ (m.1 84 (m.1 72 22).toNatClampNeg).toInt - 97 = x1.toInt)) ∨ (r.1.toInt = (m.1 84 (m.1 72 22).toNatClampNeg).toInt - 97 ∧ (m.1 72 22).toInt < (m.1 72 23).toInt ∧ 97 ≤ (m.1 84 (m.1 72 22).toNatClampNeg).toInt ∧ (m.1 84 (m.1 72 22).toNatClampNeg).toInt - 97 < (m.1 72 24).toInt ∧ (m.1 84 (m.1 72 22).toNatClampNeg).toInt - 97 ≠ x1.toInt ∧ (r.2.1 72 22).toInt = (m.1 72 22).toInt + 1))) ∧ zI r.2 ∧ Fr wX12_cornerBut m r.2) (fX12_cornerBut x1 m) := by
  have hfu := fuE
  unfold fX12_cornerBut
  simp only [a_asc]
  have kc1 : 0 ≤ (m.1 72 23).toInt ∧ (m.1 72 23).toInt ≤ 76 := hI.1 72 23
  have kc2 : 0 ≤ (m.1 72 22).toInt ∧ (m.1 72 22).toInt ≤ 80 := hI.1 72 22
  refine s_le (fun kh3 => ?_) (fun kh3 => ?_)
  · have kc4 := Ln1
    have kc5 : 0 ≤ (m.1 72 24).toInt ∧ (m.1 72 24).toInt ≤ 10 := hI.1 72 24
    exact s_ret ⟨(show ((-1 : Int) ≤ (-1 : Int32).toInt) ∧ ((-1 : Int32).toInt ≤ 9) ∧ (((-1 : Int32).toInt = -1 ∧ (m.1 72 22).toInt = (m.1 72 22).toInt ∧ ((m.1 72 23).toInt ≤ (m.1 72 22).toInt ∨ (m.1 84 (m.1 72 22).toNatClampNeg).toInt < 97 ∨ (m.1 72 24).toInt ≤ (m.1 84 (m.1 72 22).toNatClampNeg).toInt - 97 ∨ (m.1 84 (m.1 72 22).toNatClampNeg).toInt - 97 = x1.toInt)) ∨ ((-1 : Int32).toInt = (m.1 84 (m.1 72 22).toNatClampNeg).toInt - 97 ∧ (m.1 72 22).toInt < (m.1 72 23).toInt ∧ 97 ≤ (m.1 84 (m.1 72 22).toNatClampNeg).toInt ∧ (m.1 84 (m.1 72 22).toNatClampNeg).toInt - 97 < (m.1 72 24).toInt ∧ (m.1 84 (m.1 72 22).toNatClampNeg).toInt - 97 ≠ x1.toInt ∧ (m.1 72 22).toInt = (m.1 72 22).toInt + 1)) by omega), hI, Fr.refl⟩
  · have kx6 : 0 ≤ ((m.1 72 22)).toInt ∧ ((m.1 72 22)).toInt < (80 : Int) := by omega
    refine s_ix kx6 ?_
    have kc7 : 0 ≤ (m.1 84 ((m.1 72 22)).toNatClampNeg).toInt ∧ (m.1 84 ((m.1 72 22)).toNatClampNeg).toInt ≤ 255 := hI.1 84 ((m.1 72 22)).toNatClampNeg
    have kc8 : ((m.1 84 ((m.1 72 22)).toNatClampNeg) - (97 : Int32)).toInt = ((m.1 84 ((m.1 72 22)).toNatClampNeg)).toInt - 97 := a_subl L97 (by omega) (by omega)
    have kc9 : (((m.1 84 ((m.1 72 22)).toNatClampNeg) - (97 : Int32))).toInt64.toInt = (((m.1 84 ((m.1 72 22)).toNatClampNeg) - (97 : Int32))).toInt := Int32.toInt_toInt64 _
    have kc10 := LL0
    have kc11 : 0 ≤ (m.1 72 24).toInt ∧ (m.1 72 24).toInt ≤ 10 := hI.1 72 24
    have kc12 : ((m.1 72 24) - (1 : Int32)).toInt = ((m.1 72 24)).toInt - 1 := a_subl L1 (by omega) (by omega)
    have kc13 : (((m.1 72 24) - (1 : Int32))).toInt64.toInt = (((m.1 72 24) - (1 : Int32))).toInt := Int32.toInt_toInt64 _
    refine s_bd (zX12_in (((m.1 84 ((m.1 72 22)).toNatClampNeg) - (97 : Int32))).toInt64 (0 : Int64) (((m.1 72 24) - (1 : Int32))).toInt64 m (show (-1 : Int) ≤ (0 : Int64).toInt ∧ (0 : Int64).toInt ≤ 48 ∧ (-1 : Int) ≤ (((m.1 72 24) - (1 : Int32))).toInt64.toInt ∧ (((m.1 72 24) - (1 : Int32))).toInt64.toInt ≤ 9999 by omega) hI) (fun r3 kr14 => ?_)
    replace kr14 : (0 ≤ r3.toInt) ∧ (r3.toInt ≤ 1) ∧ ((r3.toInt = 0 ∧ ((((m.1 84 ((m.1 72 22)).toNatClampNeg) - (97 : Int32))).toInt64.toInt < (0 : Int64).toInt ∨ (((m.1 72 24) - (1 : Int32))).toInt64.toInt < (((m.1 84 ((m.1 72 22)).toNatClampNeg) - (97 : Int32))).toInt64.toInt)) ∨ (r3.toInt = 1 ∧ (0 : Int64).toInt ≤ (((m.1 84 ((m.1 72 22)).toNatClampNeg) - (97 : Int32))).toInt64.toInt ∧ (((m.1 84 ((m.1 72 22)).toNatClampNeg) - (97 : Int32))).toInt64.toInt ≤ (((m.1 72 24) - (1 : Int32))).toInt64.toInt)) := kr14
    have kc15 := L0
    refine s_eq (fun kh16 => ?_) (fun kh16 => ?_)
    · have kc17 := Ln1
      exact s_ret ⟨(show ((-1 : Int) ≤ (-1 : Int32).toInt) ∧ ((-1 : Int32).toInt ≤ 9) ∧ (((-1 : Int32).toInt = -1 ∧ (m.1 72 22).toInt = (m.1 72 22).toInt ∧ ((m.1 72 23).toInt ≤ (m.1 72 22).toInt ∨ (m.1 84 (m.1 72 22).toNatClampNeg).toInt < 97 ∨ (m.1 72 24).toInt ≤ (m.1 84 (m.1 72 22).toNatClampNeg).toInt - 97 ∨ (m.1 84 (m.1 72 22).toNatClampNeg).toInt - 97 = x1.toInt)) ∨ ((-1 : Int32).toInt = (m.1 84 (m.1 72 22).toNatClampNeg).toInt - 97 ∧ (m.1 72 22).toInt < (m.1 72 23).toInt ∧ 97 ≤ (m.1 84 (m.1 72 22).toNatClampNeg).toInt ∧ (m.1 84 (m.1 72 22).toNatClampNeg).toInt - 97 < (m.1 72 24).toInt ∧ (m.1 84 (m.1 72 22).toNatClampNeg).toInt - 97 ≠ x1.toInt ∧ (m.1 72 22).toInt = (m.1 72 22).toInt + 1)) by omega), hI, Fr.refl⟩
    · refine s_ix kx6 ?_
      refine s_eq (fun kh18 => ?_) (fun kh18 => ?_)
      · have kc19 := Ln1
        exact s_ret ⟨(show ((-1 : Int) ≤ (-1 : Int32).toInt) ∧ ((-1 : Int32).toInt ≤ 9) ∧ (((-1 : Int32).toInt = -1 ∧ (m.1 72 22).toInt = (m.1 72 22).toInt ∧ ((m.1 72 23).toInt ≤ (m.1 72 22).toInt ∨ (m.1 84 (m.1 72 22).toNatClampNeg).toInt < 97 ∨ (m.1 72 24).toInt ≤ (m.1 84 (m.1 72 22).toNatClampNeg).toInt - 97 ∨ (m.1 84 (m.1 72 22).toNatClampNeg).toInt - 97 = x1.toInt)) ∨ ((-1 : Int32).toInt = (m.1 84 (m.1 72 22).toNatClampNeg).toInt - 97 ∧ (m.1 72 22).toInt < (m.1 72 23).toInt ∧ 97 ≤ (m.1 84 (m.1 72 22).toNatClampNeg).toInt ∧ (m.1 84 (m.1 72 22).toNatClampNeg).toInt - 97 < (m.1 72 24).toInt ∧ (m.1 84 (m.1 72 22).toNatClampNeg).toInt - 97 ≠ x1.toInt ∧ (m.1 72 22).toInt = (m.1 72 22).toInt + 1)) by omega), hI, Fr.refl⟩
      · refine s_ix kx6 ?_
        have kc20 : ((m.1 72 22) + (1 : Int32)).toInt = ((m.1 72 22)).toInt + 1 := a_addl L1 (by omega) (by omega)
        have ki21 : zI (sm_w1 m 72 22 ((m.1 72 22) + (1 : Int32))) := zI.w hI rfl (show 0 ≤ (((m.1 72 22) + (1 : Int32))).toInt ∧ (((m.1 72 22) + (1 : Int32))).toInt ≤ 80 by omega)
        have kc22 : 0 ≤ ((sm_w1 m 72 22 ((m.1 72 22) + (1 : Int32))).1 72 22).toInt ∧ ((sm_w1 m 72 22 ((m.1 72 22) + (1 : Int32))).1 72 22).toInt ≤ 80 := ki21.1 72 22
        have kc23 : ((sm_w1 m 72 22 ((m.1 72 22) + (1 : Int32))).1 72 22).toInt = (((m.1 72 22) + (1 : Int32))).toInt := rfl
        have kf24 : Fr wX12_cornerBut m (sm_w1 m 72 22 ((m.1 72 22) + (1 : Int32))) := Fr.w Fr.refl rfl
        exact s_ret ⟨(show ((-1 : Int) ≤ ((m.1 84 ((m.1 72 22)).toNatClampNeg) - (97 : Int32)).toInt) ∧ (((m.1 84 ((m.1 72 22)).toNatClampNeg) - (97 : Int32)).toInt ≤ 9) ∧ ((((m.1 84 ((m.1 72 22)).toNatClampNeg) - (97 : Int32)).toInt = -1 ∧ ((sm_w1 m 72 22 ((m.1 72 22) + (1 : Int32))).1 72 22).toInt = (m.1 72 22).toInt ∧ ((m.1 72 23).toInt ≤ (m.1 72 22).toInt ∨ (m.1 84 (m.1 72 22).toNatClampNeg).toInt < 97 ∨ (m.1 72 24).toInt ≤ (m.1 84 (m.1 72 22).toNatClampNeg).toInt - 97 ∨ (m.1 84 (m.1 72 22).toNatClampNeg).toInt - 97 = x1.toInt)) ∨ (((m.1 84 ((m.1 72 22)).toNatClampNeg) - (97 : Int32)).toInt = (m.1 84 (m.1 72 22).toNatClampNeg).toInt - 97 ∧ (m.1 72 22).toInt < (m.1 72 23).toInt ∧ 97 ≤ (m.1 84 (m.1 72 22).toNatClampNeg).toInt ∧ (m.1 84 (m.1 72 22).toNatClampNeg).toInt - 97 < (m.1 72 24).toInt ∧ (m.1 84 (m.1 72 22).toNatClampNeg).toInt - 97 ≠ x1.toInt ∧ ((sm_w1 m 72 22 ((m.1 72 22) + (1 : Int32))).1 72 22).toInt = (m.1 72 22).toInt + 1)) by omega), ki21, kf24⟩
theorem zX12_isAt_v (x1 : Int32) (m : sm_S) (hp : 64 ≤ x1.toInt ∧ x1.toInt ≤ 64) (hI : zI m) : Sf (fun r => (0 ≤ r.toInt) ∧ (r.toInt ≤ 1) ∧ ((r.toInt = 0 ∧ ((m.1 72 23).toInt ≤ (m.1 72 22).toInt ∨ (m.1 84 (m.1 72 22).toNatClampNeg).toInt ≠ x1.toInt)) ∨ (r.toInt = 1 ∧ (m.1 72 22).toInt < (m.1 72 23).toInt ∧ (m.1 84 (m.1 72 22).toNatClampNeg).toInt = x1.toInt))) (fX12_isAt x1 m) := by
  have hfu := fuE
  unfold fX12_isAt
  have kc1 : 0 ≤ (m.1 72 23).toInt ∧ (m.1 72 23).toInt ≤ 76 := hI.1 72 23
  have kc2 : 0 ≤ (m.1 72 22).toInt ∧ (m.1 72 22).toInt ≤ 80 := hI.1 72 22
  refine s_le (fun kh3 => ?_) (fun kh3 => ?_)
  · have kc4 := L0
    exact s_ret (show (0 ≤ (0 : Int32).toInt) ∧ ((0 : Int32).toInt ≤ 1) ∧ (((0 : Int32).toInt = 0 ∧ ((m.1 72 23).toInt ≤ (m.1 72 22).toInt ∨ (m.1 84 (m.1 72 22).toNatClampNeg).toInt ≠ x1.toInt)) ∨ ((0 : Int32).toInt = 1 ∧ (m.1 72 22).toInt < (m.1 72 23).toInt ∧ (m.1 84 (m.1 72 22).toNatClampNeg).toInt = x1.toInt)) by omega)
  · have kx5 : 0 ≤ ((m.1 72 22)).toInt ∧ ((m.1 72 22)).toInt < (80 : Int) := by omega
    refine s_ix kx5 ?_
    have kc6 : 0 ≤ (m.1 84 ((m.1 72 22)).toNatClampNeg).toInt ∧ (m.1 84 ((m.1 72 22)).toNatClampNeg).toInt ≤ 255 := hI.1 84 ((m.1 72 22)).toNatClampNeg
    refine s_eq (fun kh7 => ?_) (fun kh7 => ?_)
    · have kc8 := L1
      exact s_ret (show (0 ≤ (1 : Int32).toInt) ∧ ((1 : Int32).toInt ≤ 1) ∧ (((1 : Int32).toInt = 0 ∧ ((m.1 72 23).toInt ≤ (m.1 72 22).toInt ∨ (m.1 84 (m.1 72 22).toNatClampNeg).toInt ≠ x1.toInt)) ∨ ((1 : Int32).toInt = 1 ∧ (m.1 72 22).toInt < (m.1 72 23).toInt ∧ (m.1 84 (m.1 72 22).toNatClampNeg).toInt = x1.toInt)) by omega)
    · have kc9 := L0
      exact s_ret (show (0 ≤ (0 : Int32).toInt) ∧ ((0 : Int32).toInt ≤ 1) ∧ (((0 : Int32).toInt = 0 ∧ ((m.1 72 23).toInt ≤ (m.1 72 22).toInt ∨ (m.1 84 (m.1 72 22).toNatClampNeg).toInt ≠ x1.toInt)) ∨ ((0 : Int32).toInt = 1 ∧ (m.1 72 22).toInt < (m.1 72 23).toInt ∧ (m.1 84 (m.1 72 22).toNatClampNeg).toInt = x1.toInt)) by omega)
theorem zX12_faultOf_v (x1 : Int32) (x2 : Int32) (x3 : Int32) (m : sm_S) (hp : 0 ≤ x1.toInt ∧ x1.toInt ≤ 80 ∧ 30 ≤ x2.toInt ∧ x2.toInt ≤ 76 ∧ 0 ≤ x3.toInt ∧ x3.toInt ≤ 1) (hI : zI m) : Sf (fun r => ((-81 : Int) ≤ r.toInt) ∧ (r.toInt ≤ 0) ∧ ((x3.toInt ≠ 0 ∧ (m.1 72 22).toInt = (m.1 72 23).toInt ∧ x1.toInt ≤ x2.toInt ∧ r.toInt = 0) ∨ ((x3.toInt = 0 ∨ (m.1 72 22).toInt ≠ (m.1 72 23).toInt ∨ x2.toInt < x1.toInt) ∧ ((r.toInt = -1 - (m.1 72 22).toInt ∧ (x1.toInt ≤ x2.toInt ∨ (m.1 72 22).toInt < x2.toInt)) ∨ (r.toInt = -1 - x2.toInt ∧ x2.toInt < x1.toInt ∧ (x2.toInt ≤ (m.1 72 22).toInt ∨ (x3.toInt ≠ 0 ∧ (m.1 72 22).toInt = (m.1 72 23).toInt))))))) (fX12_faultOf x1 x2 x3 m) := by
  have hfu := fuE
  unfold fX12_faultOf
  have kc1 := L0
  refine s_eq (fun kh2 => ?_) (fun kh2 => ?_)
  · refine s_le (fun kh3 => ?_) (fun kh3 => ?_)
    · have kc4 := Ln1
      have kc5 : 0 ≤ (m.1 72 22).toInt ∧ (m.1 72 22).toInt ≤ 80 := hI.1 72 22
      have kc6 : ((-1 : Int32) - (m.1 72 22)).toInt = ((-1 : Int32)).toInt - ((m.1 72 22)).toInt := a_sub (by omega) (by omega)
      have kc7 : 0 ≤ (m.1 72 23).toInt ∧ (m.1 72 23).toInt ≤ 76 := hI.1 72 23
      exact s_ret (show ((-81 : Int) ≤ ((-1 : Int32) - (m.1 72 22)).toInt) ∧ (((-1 : Int32) - (m.1 72 22)).toInt ≤ 0) ∧ ((x3.toInt ≠ 0 ∧ (m.1 72 22).toInt = (m.1 72 23).toInt ∧ x1.toInt ≤ x2.toInt ∧ ((-1 : Int32) - (m.1 72 22)).toInt = 0) ∨ ((x3.toInt = 0 ∨ (m.1 72 22).toInt ≠ (m.1 72 23).toInt ∨ x2.toInt < x1.toInt) ∧ ((((-1 : Int32) - (m.1 72 22)).toInt = -1 - (m.1 72 22).toInt ∧ (x1.toInt ≤ x2.toInt ∨ (m.1 72 22).toInt < x2.toInt)) ∨ (((-1 : Int32) - (m.1 72 22)).toInt = -1 - x2.toInt ∧ x2.toInt < x1.toInt ∧ (x2.toInt ≤ (m.1 72 22).toInt ∨ (x3.toInt ≠ 0 ∧ (m.1 72 22).toInt = (m.1 72 23).toInt)))))) by omega)
    · have kc8 : 0 ≤ (m.1 72 22).toInt ∧ (m.1 72 22).toInt ≤ 80 := hI.1 72 22
      refine s_lt (fun kh9 => ?_) (fun kh9 => ?_)
      · have kc10 := Ln1
        have kc11 : ((-1 : Int32) - (m.1 72 22)).toInt = ((-1 : Int32)).toInt - ((m.1 72 22)).toInt := a_sub (by omega) (by omega)
        have kc12 : 0 ≤ (m.1 72 23).toInt ∧ (m.1 72 23).toInt ≤ 76 := hI.1 72 23
        exact s_ret (show ((-81 : Int) ≤ ((-1 : Int32) - (m.1 72 22)).toInt) ∧ (((-1 : Int32) - (m.1 72 22)).toInt ≤ 0) ∧ ((x3.toInt ≠ 0 ∧ (m.1 72 22).toInt = (m.1 72 23).toInt ∧ x1.toInt ≤ x2.toInt ∧ ((-1 : Int32) - (m.1 72 22)).toInt = 0) ∨ ((x3.toInt = 0 ∨ (m.1 72 22).toInt ≠ (m.1 72 23).toInt ∨ x2.toInt < x1.toInt) ∧ ((((-1 : Int32) - (m.1 72 22)).toInt = -1 - (m.1 72 22).toInt ∧ (x1.toInt ≤ x2.toInt ∨ (m.1 72 22).toInt < x2.toInt)) ∨ (((-1 : Int32) - (m.1 72 22)).toInt = -1 - x2.toInt ∧ x2.toInt < x1.toInt ∧ (x2.toInt ≤ (m.1 72 22).toInt ∨ (x3.toInt ≠ 0 ∧ (m.1 72 22).toInt = (m.1 72 23).toInt)))))) by omega)
      · have kc13 := Ln1
        have kc14 : ((-1 : Int32) - x2).toInt = ((-1 : Int32)).toInt - (x2).toInt := a_sub (by omega) (by omega)
        have kc15 : 0 ≤ (m.1 72 23).toInt ∧ (m.1 72 23).toInt ≤ 76 := hI.1 72 23
        exact s_ret (show ((-81 : Int) ≤ ((-1 : Int32) - x2).toInt) ∧ (((-1 : Int32) - x2).toInt ≤ 0) ∧ ((x3.toInt ≠ 0 ∧ (m.1 72 22).toInt = (m.1 72 23).toInt ∧ x1.toInt ≤ x2.toInt ∧ ((-1 : Int32) - x2).toInt = 0) ∨ ((x3.toInt = 0 ∨ (m.1 72 22).toInt ≠ (m.1 72 23).toInt ∨ x2.toInt < x1.toInt) ∧ ((((-1 : Int32) - x2).toInt = -1 - (m.1 72 22).toInt ∧ (x1.toInt ≤ x2.toInt ∨ (m.1 72 22).toInt < x2.toInt)) ∨ (((-1 : Int32) - x2).toInt = -1 - x2.toInt ∧ x2.toInt < x1.toInt ∧ (x2.toInt ≤ (m.1 72 22).toInt ∨ (x3.toInt ≠ 0 ∧ (m.1 72 22).toInt = (m.1 72 23).toInt)))))) by omega)
  · have kc16 : 0 ≤ (m.1 72 22).toInt ∧ (m.1 72 22).toInt ≤ 80 := hI.1 72 22
    have kc17 : 0 ≤ (m.1 72 23).toInt ∧ (m.1 72 23).toInt ≤ 76 := hI.1 72 23
    refine s_eq (fun kh18 => ?_) (fun kh18 => ?_)
    · refine s_le (fun kh19 => ?_) (fun kh19 => ?_)
      · exact s_ret (show ((-81 : Int) ≤ (0 : Int32).toInt) ∧ ((0 : Int32).toInt ≤ 0) ∧ ((x3.toInt ≠ 0 ∧ (m.1 72 22).toInt = (m.1 72 23).toInt ∧ x1.toInt ≤ x2.toInt ∧ (0 : Int32).toInt = 0) ∨ ((x3.toInt = 0 ∨ (m.1 72 22).toInt ≠ (m.1 72 23).toInt ∨ x2.toInt < x1.toInt) ∧ (((0 : Int32).toInt = -1 - (m.1 72 22).toInt ∧ (x1.toInt ≤ x2.toInt ∨ (m.1 72 22).toInt < x2.toInt)) ∨ ((0 : Int32).toInt = -1 - x2.toInt ∧ x2.toInt < x1.toInt ∧ (x2.toInt ≤ (m.1 72 22).toInt ∨ (x3.toInt ≠ 0 ∧ (m.1 72 22).toInt = (m.1 72 23).toInt)))))) by omega)
      · have kc20 := Ln1
        have kc21 : ((-1 : Int32) - x2).toInt = ((-1 : Int32)).toInt - (x2).toInt := a_sub (by omega) (by omega)
        exact s_ret (show ((-81 : Int) ≤ ((-1 : Int32) - x2).toInt) ∧ (((-1 : Int32) - x2).toInt ≤ 0) ∧ ((x3.toInt ≠ 0 ∧ (m.1 72 22).toInt = (m.1 72 23).toInt ∧ x1.toInt ≤ x2.toInt ∧ ((-1 : Int32) - x2).toInt = 0) ∨ ((x3.toInt = 0 ∨ (m.1 72 22).toInt ≠ (m.1 72 23).toInt ∨ x2.toInt < x1.toInt) ∧ ((((-1 : Int32) - x2).toInt = -1 - (m.1 72 22).toInt ∧ (x1.toInt ≤ x2.toInt ∨ (m.1 72 22).toInt < x2.toInt)) ∨ (((-1 : Int32) - x2).toInt = -1 - x2.toInt ∧ x2.toInt < x1.toInt ∧ (x2.toInt ≤ (m.1 72 22).toInt ∨ (x3.toInt ≠ 0 ∧ (m.1 72 22).toInt = (m.1 72 23).toInt)))))) by omega)
    · refine s_le (fun kh22 => ?_) (fun kh22 => ?_)
      · have kc23 := Ln1
        have kc24 : ((-1 : Int32) - (m.1 72 22)).toInt = ((-1 : Int32)).toInt - ((m.1 72 22)).toInt := a_sub (by omega) (by omega)
        exact s_ret (show ((-81 : Int) ≤ ((-1 : Int32) - (m.1 72 22)).toInt) ∧ (((-1 : Int32) - (m.1 72 22)).toInt ≤ 0) ∧ ((x3.toInt ≠ 0 ∧ (m.1 72 22).toInt = (m.1 72 23).toInt ∧ x1.toInt ≤ x2.toInt ∧ ((-1 : Int32) - (m.1 72 22)).toInt = 0) ∨ ((x3.toInt = 0 ∨ (m.1 72 22).toInt ≠ (m.1 72 23).toInt ∨ x2.toInt < x1.toInt) ∧ ((((-1 : Int32) - (m.1 72 22)).toInt = -1 - (m.1 72 22).toInt ∧ (x1.toInt ≤ x2.toInt ∨ (m.1 72 22).toInt < x2.toInt)) ∨ (((-1 : Int32) - (m.1 72 22)).toInt = -1 - x2.toInt ∧ x2.toInt < x1.toInt ∧ (x2.toInt ≤ (m.1 72 22).toInt ∨ (x3.toInt ≠ 0 ∧ (m.1 72 22).toInt = (m.1 72 23).toInt)))))) by omega)
      · refine s_lt (fun kh25 => ?_) (fun kh25 => ?_)
        · have kc26 := Ln1
          have kc27 : ((-1 : Int32) - (m.1 72 22)).toInt = ((-1 : Int32)).toInt - ((m.1 72 22)).toInt := a_sub (by omega) (by omega)
          exact s_ret (show ((-81 : Int) ≤ ((-1 : Int32) - (m.1 72 22)).toInt) ∧ (((-1 : Int32) - (m.1 72 22)).toInt ≤ 0) ∧ ((x3.toInt ≠ 0 ∧ (m.1 72 22).toInt = (m.1 72 23).toInt ∧ x1.toInt ≤ x2.toInt ∧ ((-1 : Int32) - (m.1 72 22)).toInt = 0) ∨ ((x3.toInt = 0 ∨ (m.1 72 22).toInt ≠ (m.1 72 23).toInt ∨ x2.toInt < x1.toInt) ∧ ((((-1 : Int32) - (m.1 72 22)).toInt = -1 - (m.1 72 22).toInt ∧ (x1.toInt ≤ x2.toInt ∨ (m.1 72 22).toInt < x2.toInt)) ∨ (((-1 : Int32) - (m.1 72 22)).toInt = -1 - x2.toInt ∧ x2.toInt < x1.toInt ∧ (x2.toInt ≤ (m.1 72 22).toInt ∨ (x3.toInt ≠ 0 ∧ (m.1 72 22).toInt = (m.1 72 23).toInt)))))) by omega)
        · have kc28 := Ln1
          have kc29 : ((-1 : Int32) - x2).toInt = ((-1 : Int32)).toInt - (x2).toInt := a_sub (by omega) (by omega)
          exact s_ret (show ((-81 : Int) ≤ ((-1 : Int32) - x2).toInt) ∧ (((-1 : Int32) - x2).toInt ≤ 0) ∧ ((x3.toInt ≠ 0 ∧ (m.1 72 22).toInt = (m.1 72 23).toInt ∧ x1.toInt ≤ x2.toInt ∧ ((-1 : Int32) - x2).toInt = 0) ∨ ((x3.toInt = 0 ∨ (m.1 72 22).toInt ≠ (m.1 72 23).toInt ∨ x2.toInt < x1.toInt) ∧ ((((-1 : Int32) - x2).toInt = -1 - (m.1 72 22).toInt ∧ (x1.toInt ≤ x2.toInt ∨ (m.1 72 22).toInt < x2.toInt)) ∨ (((-1 : Int32) - x2).toInt = -1 - x2.toInt ∧ x2.toInt < x1.toInt ∧ (x2.toInt ≤ (m.1 72 22).toInt ∨ (x3.toInt ≠ 0 ∧ (m.1 72 22).toInt = (m.1 72 23).toInt)))))) by omega)
