theorem zX12_isDigit (m : sm_S) (hI : zI m) : Sf (fun r => (0 ≤ r.toInt) ∧ (r.toInt ≤ 1) ∧ (r.toInt = 0 ∨ ((m.1 72 22).toInt < (m.1 72 23).toInt ∧ 48 ≤ (m.1 84 (m.1 72 22).toNatClampNeg).toInt ∧ (m.1 84 (m.1 72 22).toNatClampNeg).toInt ≤ 57))) (fX12_isDigit m) := by
  have hfu := fuE
  unfold fX12_isDigit
  have kc1 : 0 ≤ (m.1 72 23).toInt ∧ (m.1 72 23).toInt ≤ 76 := hI.1 72 23
  have kc2 : 0 ≤ (m.1 72 22).toInt ∧ (m.1 72 22).toInt ≤ 80 := hI.1 72 22
  refine s_le (fun kh3 => ?_) (fun kh3 => ?_)
  · have kc4 := L0
    have kc5 : 0 ≤ (m.1 84 ((m.1 72 22)).toNatClampNeg).toInt ∧ (m.1 84 ((m.1 72 22)).toNatClampNeg).toInt ≤ 255 := hI.1 84 ((m.1 72 22)).toNatClampNeg
    exact s_ret (show (0 ≤ (0 : Int32).toInt) ∧ ((0 : Int32).toInt ≤ 1) ∧ ((0 : Int32).toInt = 0 ∨ ((m.1 72 22).toInt < (m.1 72 23).toInt ∧ 48 ≤ (m.1 84 (m.1 72 22).toNatClampNeg).toInt ∧ (m.1 84 (m.1 72 22).toNatClampNeg).toInt ≤ 57)) by omega)
  · have kx6 : 0 ≤ ((m.1 72 22)).toInt ∧ ((m.1 72 22)).toInt < (80 : Int) := by omega
    refine s_ix kx6 ?_
    have kc7 : 0 ≤ (m.1 84 ((m.1 72 22)).toNatClampNeg).toInt ∧ (m.1 84 ((m.1 72 22)).toNatClampNeg).toInt ≤ 255 := hI.1 84 ((m.1 72 22)).toNatClampNeg
    have kc8 : ((m.1 84 ((m.1 72 22)).toNatClampNeg)).toInt64.toInt = ((m.1 84 ((m.1 72 22)).toNatClampNeg)).toInt := Int32.toInt_toInt64 _
    have kc9 := LL48
    have kc10 := LL57
    refine s_bd (zX12_in ((m.1 84 ((m.1 72 22)).toNatClampNeg)).toInt64 (48 : Int64) (57 : Int64) m (show (-1 : Int) ≤ (48 : Int64).toInt ∧ (48 : Int64).toInt ≤ 48 ∧ (-1 : Int) ≤ (57 : Int64).toInt ∧ (57 : Int64).toInt ≤ 9999 by omega) hI) (fun r3 kr11 => ?_)
    replace kr11 : (0 ≤ r3.toInt) ∧ (r3.toInt ≤ 1) ∧ ((r3.toInt = 0 ∧ (((m.1 84 ((m.1 72 22)).toNatClampNeg)).toInt64.toInt < (48 : Int64).toInt ∨ (57 : Int64).toInt < ((m.1 84 ((m.1 72 22)).toNatClampNeg)).toInt64.toInt)) ∨ (r3.toInt = 1 ∧ (48 : Int64).toInt ≤ ((m.1 84 ((m.1 72 22)).toNatClampNeg)).toInt64.toInt ∧ ((m.1 84 ((m.1 72 22)).toNatClampNeg)).toInt64.toInt ≤ (57 : Int64).toInt)) := kr11
    have kc12 := L0
    refine s_eq (fun kh13 => ?_) (fun kh13 => ?_)
    · exact s_ret (show (0 ≤ (0 : Int32).toInt) ∧ ((0 : Int32).toInt ≤ 1) ∧ ((0 : Int32).toInt = 0 ∨ ((m.1 72 22).toInt < (m.1 72 23).toInt ∧ 48 ≤ (m.1 84 (m.1 72 22).toNatClampNeg).toInt ∧ (m.1 84 (m.1 72 22).toNatClampNeg).toInt ≤ 57)) by omega)
    · have kc14 := L1
      exact s_ret (show (0 ≤ (1 : Int32).toInt) ∧ ((1 : Int32).toInt ≤ 1) ∧ ((1 : Int32).toInt = 0 ∨ ((m.1 72 22).toInt < (m.1 72 23).toInt ∧ 48 ≤ (m.1 84 (m.1 72 22).toNatClampNeg).toInt ∧ (m.1 84 (m.1 72 22).toNatClampNeg).toInt ≤ 57)) by omega)
theorem zX12_digit (x1 : Int32) (m : sm_S) (hp : 5 ≤ x1.toInt ∧ x1.toInt ≤ 9) (hI : zI m) : Sf (fun r => (((-1 : Int) ≤ r.1.toInt) ∧ (r.1.toInt ≤ 9) ∧ ((r.1.toInt < 0 ∧ (r.2.1 72 22).toInt = (m.1 72 22).toInt) ∨ (0 ≤ r.1.toInt ∧ (m.1 72 22).toInt < (m.1 72 23).toInt ∧ (r.2.1 72 22).toInt = (m.1 72 22).toInt + 1))) ∧ zI r.2 ∧ Fr wX12_digit m r.2) (fX12_digit x1 m) := by
  have hfu := fuE
  unfold fX12_digit
  simp only [a_asc]
  refine s_bd (zX12_isDigit m hI) (fun r2 kr1 => ?_)
  replace kr1 : (0 ≤ r2.toInt) ∧ (r2.toInt ≤ 1) ∧ (r2.toInt = 0 ∨ ((m.1 72 22).toInt < (m.1 72 23).toInt ∧ 48 ≤ (m.1 84 (m.1 72 22).toNatClampNeg).toInt ∧ (m.1 84 (m.1 72 22).toNatClampNeg).toInt ≤ 57)) := kr1
  have kc2 : 0 ≤ (m.1 72 22).toInt ∧ (m.1 72 22).toInt ≤ 80 := hI.1 72 22
  have kc3 : 0 ≤ (m.1 72 23).toInt ∧ (m.1 72 23).toInt ≤ 76 := hI.1 72 23
  have kc4 := L48
  have kc5 : 0 ≤ (m.1 84 ((m.1 72 22)).toNatClampNeg).toInt ∧ (m.1 84 ((m.1 72 22)).toNatClampNeg).toInt ≤ 255 := hI.1 84 ((m.1 72 22)).toNatClampNeg
  have kc6 := L57
  have kc7 := L0
  refine s_eq (fun kh8 => ?_) (fun kh8 => ?_)
  · have kc9 := Ln1
    exact s_ret ⟨(show ((-1 : Int) ≤ (-1 : Int32).toInt) ∧ ((-1 : Int32).toInt ≤ 9) ∧ (((-1 : Int32).toInt < 0 ∧ (m.1 72 22).toInt = (m.1 72 22).toInt) ∨ (0 ≤ (-1 : Int32).toInt ∧ (m.1 72 22).toInt < (m.1 72 23).toInt ∧ (m.1 72 22).toInt = (m.1 72 22).toInt + 1)) by omega), hI, Fr.refl⟩
  · have kx10 : 0 ≤ ((m.1 72 22)).toInt ∧ ((m.1 72 22)).toInt < (80 : Int) := by omega
    refine s_ix kx10 ?_
    have kc11 : ((m.1 84 ((m.1 72 22)).toNatClampNeg) - (48 : Int32)).toInt = ((m.1 84 ((m.1 72 22)).toNatClampNeg)).toInt - 48 := a_subl L48 (by omega) (by omega)
    refine s_le (fun kh12 => ?_) (fun kh12 => ?_)
    · refine s_ix kx10 ?_
      have kc13 : ((m.1 72 22) + (1 : Int32)).toInt = ((m.1 72 22)).toInt + 1 := a_addl L1 (by omega) (by omega)
      have ki14 : zI (sm_w1 m 72 22 ((m.1 72 22) + (1 : Int32))) := zI.w hI rfl (show 0 ≤ (((m.1 72 22) + (1 : Int32))).toInt ∧ (((m.1 72 22) + (1 : Int32))).toInt ≤ 80 by omega)
      have kc15 : 0 ≤ ((sm_w1 m 72 22 ((m.1 72 22) + (1 : Int32))).1 72 22).toInt ∧ ((sm_w1 m 72 22 ((m.1 72 22) + (1 : Int32))).1 72 22).toInt ≤ 80 := ki14.1 72 22
      have kc16 : ((sm_w1 m 72 22 ((m.1 72 22) + (1 : Int32))).1 72 22).toInt = (((m.1 72 22) + (1 : Int32))).toInt := rfl
      have kf17 : Fr wX12_digit m (sm_w1 m 72 22 ((m.1 72 22) + (1 : Int32))) := Fr.w Fr.refl rfl
      exact s_ret ⟨(show ((-1 : Int) ≤ ((m.1 84 ((m.1 72 22)).toNatClampNeg) - (48 : Int32)).toInt) ∧ (((m.1 84 ((m.1 72 22)).toNatClampNeg) - (48 : Int32)).toInt ≤ 9) ∧ ((((m.1 84 ((m.1 72 22)).toNatClampNeg) - (48 : Int32)).toInt < 0 ∧ ((sm_w1 m 72 22 ((m.1 72 22) + (1 : Int32))).1 72 22).toInt = (m.1 72 22).toInt) ∨ (0 ≤ ((m.1 84 ((m.1 72 22)).toNatClampNeg) - (48 : Int32)).toInt ∧ (m.1 72 22).toInt < (m.1 72 23).toInt ∧ ((sm_w1 m 72 22 ((m.1 72 22) + (1 : Int32))).1 72 22).toInt = (m.1 72 22).toInt + 1)) by omega), ki14, kf17⟩
    · have kc18 := Ln1
      exact s_ret ⟨(show ((-1 : Int) ≤ (-1 : Int32).toInt) ∧ ((-1 : Int32).toInt ≤ 9) ∧ (((-1 : Int32).toInt < 0 ∧ (m.1 72 22).toInt = (m.1 72 22).toInt) ∨ (0 ≤ (-1 : Int32).toInt ∧ (m.1 72 22).toInt < (m.1 72 23).toInt ∧ (m.1 72 22).toInt = (m.1 72 22).toInt + 1)) by omega), hI, Fr.refl⟩
theorem zX12_digit_w (x1 : Int32) (m : sm_S) (hp : 5 ≤ x1.toInt ∧ x1.toInt ≤ 9) (hI : zI m) : Sf (fun r => (((-1 : Int) ≤ r.1.toInt) ∧ (r.1.toInt ≤ 9) ∧ ((m.1 72 22).toInt ≤ (r.2.1 72 22).toInt)) ∧ zI r.2 ∧ Fr wX12_digit m r.2) (fX12_digit x1 m) := by
  refine s_mono (zX12_digit x1 m hp hI) (fun r hr => ?_)
  obtain ⟨h1, h2, h3⟩ := hr
  refine ⟨?_, h2, h3⟩
  omega
theorem zX12_number (x1 : Int32) (x2 : Int32) (m : sm_S) (hp : 1 ≤ x1.toInt ∧ x1.toInt ≤ 1 ∧ 20 ≤ x2.toInt ∧ x2.toInt ≤ 20) (hI : zI m) : Sf (fun r => (((-1 : Int) ≤ r.1.toInt) ∧ (r.1.toInt ≤ 20) ∧ ((m.1 72 22).toInt ≤ (r.2.1 72 22).toInt) ∧ (r.1.toInt < 0 ∨ 1 ≤ r.1.toInt)) ∧ zI r.2 ∧ Fr wX12_number m r.2) (fX12_number x1 x2 m) := by
  have hfu := fuE
  unfold fX12_number
  have kc1 := L9
  refine s_bd (zX12_digit (9 : Int32) m (show 5 ≤ (9 : Int32).toInt ∧ (9 : Int32).toInt ≤ 9 by omega) hI) (fun r2 kr2 => ?_)
  obtain ⟨kp3, ki4, kf5⟩ := kr2
  replace kp3 : ((-1 : Int) ≤ r2.1.toInt) ∧ (r2.1.toInt ≤ 9) ∧ ((r2.1.toInt < 0 ∧ (r2.2.1 72 22).toInt = (m.1 72 22).toInt) ∨ (0 ≤ r2.1.toInt ∧ (m.1 72 22).toInt < (m.1 72 23).toInt ∧ (r2.2.1 72 22).toInt = (m.1 72 22).toInt + 1)) := kp3
  have kc6 : 0 ≤ (r2.2.1 72 22).toInt ∧ (r2.2.1 72 22).toInt ≤ 80 := ki4.1 72 22
  have kc7 : 0 ≤ (m.1 72 22).toInt ∧ (m.1 72 22).toInt ≤ 80 := hI.1 72 22
  have kc8 : 0 ≤ (m.1 72 23).toInt ∧ (m.1 72 23).toInt ≤ 76 := hI.1 72 23
  have kc9 := L0
  refine s_le (fun kh10 => ?_) (fun kh10 => ?_)
  · refine s_bd (zX12_isDigit r2.2 ki4) (fun r4 kr11 => ?_)
    replace kr11 : (0 ≤ r4.toInt) ∧ (r4.toInt ≤ 1) ∧ (r4.toInt = 0 ∨ ((r2.2.1 72 22).toInt < (r2.2.1 72 23).toInt ∧ 48 ≤ (r2.2.1 84 (r2.2.1 72 22).toNatClampNeg).toInt ∧ (r2.2.1 84 (r2.2.1 72 22).toNatClampNeg).toInt ≤ 57)) := kr11
    have kc12 : 0 ≤ (r2.2.1 72 23).toInt ∧ (r2.2.1 72 23).toInt ≤ 76 := ki4.1 72 23
    have kc13 : (r2.2.1 72 23).toInt = (m.1 72 23).toInt := congrArg Int32.toInt (kf5 72 23 rfl)
    have kc14 := L48
    have kc15 : 0 ≤ (r2.2.1 84 ((r2.2.1 72 22)).toNatClampNeg).toInt ∧ (r2.2.1 84 ((r2.2.1 72 22)).toNatClampNeg).toInt ≤ 255 := ki4.1 84 ((r2.2.1 72 22)).toNatClampNeg
    have kc16 : (r2.2.1 84 ((r2.2.1 72 22)).toNatClampNeg).toInt = (m.1 84 ((r2.2.1 72 22)).toNatClampNeg).toInt := congrArg Int32.toInt (kf5 84 ((r2.2.1 72 22)).toNatClampNeg rfl)
    have kc17 : 0 ≤ (m.1 84 ((r2.2.1 72 22)).toNatClampNeg).toInt ∧ (m.1 84 ((r2.2.1 72 22)).toNatClampNeg).toInt ≤ 255 := hI.1 84 ((r2.2.1 72 22)).toNatClampNeg
    have kc18 := L57
    refine s_eq (fun kh19 => ?_) (fun kh19 => ?_)
    · have kc20 : (r2.1).toInt64.toInt = (r2.1).toInt := Int32.toInt_toInt64 _
      have kc21 : (x1).toInt64.toInt = (x1).toInt := Int32.toInt_toInt64 _
      have kc22 : (x2).toInt64.toInt = (x2).toInt := Int32.toInt_toInt64 _
      refine s_bd (zX12_in (r2.1).toInt64 (x1).toInt64 (x2).toInt64 r2.2 (show (-1 : Int) ≤ (x1).toInt64.toInt ∧ (x1).toInt64.toInt ≤ 48 ∧ (-1 : Int) ≤ (x2).toInt64.toInt ∧ (x2).toInt64.toInt ≤ 9999 by omega) ki4) (fun r6 kr23 => ?_)
      replace kr23 : (0 ≤ r6.toInt) ∧ (r6.toInt ≤ 1) ∧ ((r6.toInt = 0 ∧ ((r2.1).toInt64.toInt < (x1).toInt64.toInt ∨ (x2).toInt64.toInt < (r2.1).toInt64.toInt)) ∨ (r6.toInt = 1 ∧ (x1).toInt64.toInt ≤ (r2.1).toInt64.toInt ∧ (r2.1).toInt64.toInt ≤ (x2).toInt64.toInt)) := kr23
      refine s_eq (fun kh24 => ?_) (fun kh24 => ?_)
      · have kc25 := Ln1
        have kc26 : ((r2.2.1 72 22) - (1 : Int32)).toInt = ((r2.2.1 72 22)).toInt - 1 := a_subl L1 (by omega) (by omega)
        have ki27 : zI (sm_w1 r2.2 72 22 ((r2.2.1 72 22) - (1 : Int32))) := zI.w ki4 rfl (show 0 ≤ (((r2.2.1 72 22) - (1 : Int32))).toInt ∧ (((r2.2.1 72 22) - (1 : Int32))).toInt ≤ 80 by omega)
        have kc28 : 0 ≤ ((sm_w1 r2.2 72 22 ((r2.2.1 72 22) - (1 : Int32))).1 72 22).toInt ∧ ((sm_w1 r2.2 72 22 ((r2.2.1 72 22) - (1 : Int32))).1 72 22).toInt ≤ 80 := ki27.1 72 22
        have kc29 : ((sm_w1 r2.2 72 22 ((r2.2.1 72 22) - (1 : Int32))).1 72 22).toInt = (((r2.2.1 72 22) - (1 : Int32))).toInt := rfl
        have kf30 : Fr wX12_number m r2.2 := Fr.trans Fr.refl kf5 rfl
        have kf31 : Fr wX12_number m (sm_w1 r2.2 72 22 ((r2.2.1 72 22) - (1 : Int32))) := Fr.w kf30 rfl
        exact s_ret ⟨(show ((-1 : Int) ≤ (-1 : Int32).toInt) ∧ ((-1 : Int32).toInt ≤ 20) ∧ ((m.1 72 22).toInt ≤ ((sm_w1 r2.2 72 22 ((r2.2.1 72 22) - (1 : Int32))).1 72 22).toInt) ∧ ((-1 : Int32).toInt < 0 ∨ 1 ≤ (-1 : Int32).toInt) by omega), ki27, kf31⟩
      · have kf32 : Fr wX12_number m r2.2 := Fr.trans Fr.refl kf5 rfl
        exact s_ret ⟨(show ((-1 : Int) ≤ r2.1.toInt) ∧ (r2.1.toInt ≤ 20) ∧ ((m.1 72 22).toInt ≤ (r2.2.1 72 22).toInt) ∧ (r2.1.toInt < 0 ∨ 1 ≤ r2.1.toInt) by omega), ki4, kf32⟩
    · refine s_bd (zX12_digit (9 : Int32) r2.2 (show 5 ≤ (9 : Int32).toInt ∧ (9 : Int32).toInt ≤ 9 by omega) ki4) (fun r8 kr33 => ?_)
      obtain ⟨kp34, ki35, kf36⟩ := kr33
      replace kp34 : ((-1 : Int) ≤ r8.1.toInt) ∧ (r8.1.toInt ≤ 9) ∧ ((r8.1.toInt < 0 ∧ (r8.2.1 72 22).toInt = (r2.2.1 72 22).toInt) ∨ (0 ≤ r8.1.toInt ∧ (r2.2.1 72 22).toInt < (r2.2.1 72 23).toInt ∧ (r8.2.1 72 22).toInt = (r2.2.1 72 22).toInt + 1)) := kp34
      have kc37 : 0 ≤ (r8.2.1 72 22).toInt ∧ (r8.2.1 72 22).toInt ≤ 80 := ki35.1 72 22
      have kc38 := L10
      have kc39 : ((10 : Int32) * r2.1).toInt = 10 * (r2.1).toInt := a_mul L10 rfl (by omega) (by omega)
      have kc40 : (((10 : Int32) * r2.1) + r8.1).toInt = (((10 : Int32) * r2.1)).toInt + (r8.1).toInt := a_add (by omega) (by omega)
      have kc41 : ((((10 : Int32) * r2.1) + r8.1)).toInt64.toInt = ((((10 : Int32) * r2.1) + r8.1)).toInt := Int32.toInt_toInt64 _
      have kc42 : (x1).toInt64.toInt = (x1).toInt := Int32.toInt_toInt64 _
      have kc43 : (x2).toInt64.toInt = (x2).toInt := Int32.toInt_toInt64 _
      refine s_bd (zX12_in ((((10 : Int32) * r2.1) + r8.1)).toInt64 (x1).toInt64 (x2).toInt64 r8.2 (show (-1 : Int) ≤ (x1).toInt64.toInt ∧ (x1).toInt64.toInt ≤ 48 ∧ (-1 : Int) ≤ (x2).toInt64.toInt ∧ (x2).toInt64.toInt ≤ 9999 by omega) ki35) (fun r10 kr44 => ?_)
      replace kr44 : (0 ≤ r10.toInt) ∧ (r10.toInt ≤ 1) ∧ ((r10.toInt = 0 ∧ (((((10 : Int32) * r2.1) + r8.1)).toInt64.toInt < (x1).toInt64.toInt ∨ (x2).toInt64.toInt < ((((10 : Int32) * r2.1) + r8.1)).toInt64.toInt)) ∨ (r10.toInt = 1 ∧ (x1).toInt64.toInt ≤ ((((10 : Int32) * r2.1) + r8.1)).toInt64.toInt ∧ ((((10 : Int32) * r2.1) + r8.1)).toInt64.toInt ≤ (x2).toInt64.toInt)) := kr44
      refine s_eq (fun kh45 => ?_) (fun kh45 => ?_)
      · have kc46 := Ln1
        have kc47 : ((r8.2.1 72 22) - (1 : Int32)).toInt = ((r8.2.1 72 22)).toInt - 1 := a_subl L1 (by omega) (by omega)
        have ki48 : zI (sm_w1 r8.2 72 22 ((r8.2.1 72 22) - (1 : Int32))) := zI.w ki35 rfl (show 0 ≤ (((r8.2.1 72 22) - (1 : Int32))).toInt ∧ (((r8.2.1 72 22) - (1 : Int32))).toInt ≤ 80 by omega)
        have kc49 : 0 ≤ ((sm_w1 r8.2 72 22 ((r8.2.1 72 22) - (1 : Int32))).1 72 22).toInt ∧ ((sm_w1 r8.2 72 22 ((r8.2.1 72 22) - (1 : Int32))).1 72 22).toInt ≤ 80 := ki48.1 72 22
        have kc50 : ((sm_w1 r8.2 72 22 ((r8.2.1 72 22) - (1 : Int32))).1 72 22).toInt = (((r8.2.1 72 22) - (1 : Int32))).toInt := rfl
        have kf51 : Fr wX12_number m r2.2 := Fr.trans Fr.refl kf5 rfl
        have kf52 : Fr wX12_number m r8.2 := Fr.trans kf51 kf36 rfl
        have kf53 : Fr wX12_number m (sm_w1 r8.2 72 22 ((r8.2.1 72 22) - (1 : Int32))) := Fr.w kf52 rfl
        exact s_ret ⟨(show ((-1 : Int) ≤ (-1 : Int32).toInt) ∧ ((-1 : Int32).toInt ≤ 20) ∧ ((m.1 72 22).toInt ≤ ((sm_w1 r8.2 72 22 ((r8.2.1 72 22) - (1 : Int32))).1 72 22).toInt) ∧ ((-1 : Int32).toInt < 0 ∨ 1 ≤ (-1 : Int32).toInt) by omega), ki48, kf53⟩
      · have kf54 : Fr wX12_number m r2.2 := Fr.trans Fr.refl kf5 rfl
        have kf55 : Fr wX12_number m r8.2 := Fr.trans kf54 kf36 rfl
        exact s_ret ⟨(show ((-1 : Int) ≤ (((10 : Int32) * r2.1) + r8.1).toInt) ∧ ((((10 : Int32) * r2.1) + r8.1).toInt ≤ 20) ∧ ((m.1 72 22).toInt ≤ (r8.2.1 72 22).toInt) ∧ ((((10 : Int32) * r2.1) + r8.1).toInt < 0 ∨ 1 ≤ (((10 : Int32) * r2.1) + r8.1).toInt) by omega), ki35, kf55⟩
  · have kc56 := Ln1
    have kf57 : Fr wX12_number m r2.2 := Fr.trans Fr.refl kf5 rfl
    exact s_ret ⟨(show ((-1 : Int) ≤ (-1 : Int32).toInt) ∧ ((-1 : Int32).toInt ≤ 20) ∧ ((m.1 72 22).toInt ≤ (r2.2.1 72 22).toInt) ∧ ((-1 : Int32).toInt < 0 ∨ 1 ≤ (-1 : Int32).toInt) by omega), ki4, kf57⟩
theorem zX12_flag (x1 : Int32) (m : sm_S) (hp : 0 ≤ x1.toInt ∧ x1.toInt ≤ 1) (hI : zI m) : Sf (fun r => (0 ≤ r.toInt) ∧ (r.toInt ≤ 1) ∧ (r.toInt = x1.toInt)) (fX12_flag x1 m) := by
  have hfu := fuE
  unfold fX12_flag
  have kc1 := L0
  refine s_eq (fun kh2 => ?_) (fun kh2 => ?_)
  · exact s_ret (show (0 ≤ (0 : Int32).toInt) ∧ ((0 : Int32).toInt ≤ 1) ∧ ((0 : Int32).toInt = x1.toInt) by omega)
  · have kc3 := L1
    exact s_ret (show (0 ≤ (1 : Int32).toInt) ∧ ((1 : Int32).toInt ≤ 1) ∧ ((1 : Int32).toInt = x1.toInt) by omega)
theorem zX12_takes (x1 : Int32) (m : sm_S) (hp : 58 ≤ x1.toInt ∧ x1.toInt ≤ 126) (hI : zI m) : Sf (fun r => ((0 ≤ r.1.toInt) ∧ (r.1.toInt ≤ 1) ∧ ((r.2.1 72 22).toInt = (m.1 72 22).toInt + r.1.toInt)) ∧ zI r.2 ∧ Fr wX12_takes m r.2) (fX12_takes x1 m) := by
  have hfu := fuE
  unfold fX12_takes
  have kc1 : 0 ≤ (m.1 72 23).toInt ∧ (m.1 72 23).toInt ≤ 76 := hI.1 72 23
  have kc2 : 0 ≤ (m.1 72 22).toInt ∧ (m.1 72 22).toInt ≤ 80 := hI.1 72 22
  refine s_le (fun kh3 => ?_) (fun kh3 => ?_)
  · have kc4 := L0
    refine s_bd (zX12_flag (0 : Int32) m (show 0 ≤ (0 : Int32).toInt ∧ (0 : Int32).toInt ≤ 1 by omega) hI) (fun r2 kr5 => ?_)
    replace kr5 : (0 ≤ r2.toInt) ∧ (r2.toInt ≤ 1) ∧ (r2.toInt = (0 : Int32).toInt) := kr5
    have kc6 : ((m.1 72 22) + r2).toInt = ((m.1 72 22)).toInt + (r2).toInt := a_add (by omega) (by omega)
    have ki7 : zI (sm_w1 m 72 22 ((m.1 72 22) + r2)) := zI.w hI rfl (show 0 ≤ (((m.1 72 22) + r2)).toInt ∧ (((m.1 72 22) + r2)).toInt ≤ 80 by omega)
    have kc8 : 0 ≤ ((sm_w1 m 72 22 ((m.1 72 22) + r2)).1 72 22).toInt ∧ ((sm_w1 m 72 22 ((m.1 72 22) + r2)).1 72 22).toInt ≤ 80 := ki7.1 72 22
    have kc9 : ((sm_w1 m 72 22 ((m.1 72 22) + r2)).1 72 22).toInt = (((m.1 72 22) + r2)).toInt := rfl
    have kf10 : Fr wX12_takes m (sm_w1 m 72 22 ((m.1 72 22) + r2)) := Fr.w Fr.refl rfl
    exact s_ret ⟨(show (0 ≤ (0 : Int32).toInt) ∧ ((0 : Int32).toInt ≤ 1) ∧ (((sm_w1 m 72 22 ((m.1 72 22) + r2)).1 72 22).toInt = (m.1 72 22).toInt + (0 : Int32).toInt) by omega), ki7, kf10⟩
  · have kx11 : 0 ≤ ((m.1 72 22)).toInt ∧ ((m.1 72 22)).toInt < (80 : Int) := by omega
    refine s_ix kx11 ?_
    have kc12 : 0 ≤ (m.1 84 ((m.1 72 22)).toNatClampNeg).toInt ∧ (m.1 84 ((m.1 72 22)).toNatClampNeg).toInt ≤ 255 := hI.1 84 ((m.1 72 22)).toNatClampNeg
    refine s_eq (fun kh13 => ?_) (fun kh13 => ?_)
    · have kc14 := L1
      refine s_bd (zX12_flag (1 : Int32) m (show 0 ≤ (1 : Int32).toInt ∧ (1 : Int32).toInt ≤ 1 by omega) hI) (fun r7 kr15 => ?_)
      replace kr15 : (0 ≤ r7.toInt) ∧ (r7.toInt ≤ 1) ∧ (r7.toInt = (1 : Int32).toInt) := kr15
      have kc16 : ((m.1 72 22) + r7).toInt = ((m.1 72 22)).toInt + (r7).toInt := a_add (by omega) (by omega)
      have ki17 : zI (sm_w1 m 72 22 ((m.1 72 22) + r7)) := zI.w hI rfl (show 0 ≤ (((m.1 72 22) + r7)).toInt ∧ (((m.1 72 22) + r7)).toInt ≤ 80 by omega)
      have kc18 : 0 ≤ ((sm_w1 m 72 22 ((m.1 72 22) + r7)).1 72 22).toInt ∧ ((sm_w1 m 72 22 ((m.1 72 22) + r7)).1 72 22).toInt ≤ 80 := ki17.1 72 22
      have kc19 : ((sm_w1 m 72 22 ((m.1 72 22) + r7)).1 72 22).toInt = (((m.1 72 22) + r7)).toInt := rfl
      have kf20 : Fr wX12_takes m (sm_w1 m 72 22 ((m.1 72 22) + r7)) := Fr.w Fr.refl rfl
      exact s_ret ⟨(show (0 ≤ (1 : Int32).toInt) ∧ ((1 : Int32).toInt ≤ 1) ∧ (((sm_w1 m 72 22 ((m.1 72 22) + r7)).1 72 22).toInt = (m.1 72 22).toInt + (1 : Int32).toInt) by omega), ki17, kf20⟩
    · have kc21 := L0
      refine s_bd (zX12_flag (0 : Int32) m (show 0 ≤ (0 : Int32).toInt ∧ (0 : Int32).toInt ≤ 1 by omega) hI) (fun r5 kr22 => ?_)
      replace kr22 : (0 ≤ r5.toInt) ∧ (r5.toInt ≤ 1) ∧ (r5.toInt = (0 : Int32).toInt) := kr22
      have kc23 : ((m.1 72 22) + r5).toInt = ((m.1 72 22)).toInt + (r5).toInt := a_add (by omega) (by omega)
      have ki24 : zI (sm_w1 m 72 22 ((m.1 72 22) + r5)) := zI.w hI rfl (show 0 ≤ (((m.1 72 22) + r5)).toInt ∧ (((m.1 72 22) + r5)).toInt ≤ 80 by omega)
      have kc25 : 0 ≤ ((sm_w1 m 72 22 ((m.1 72 22) + r5)).1 72 22).toInt ∧ ((sm_w1 m 72 22 ((m.1 72 22) + r5)).1 72 22).toInt ≤ 80 := ki24.1 72 22
      have kc26 : ((sm_w1 m 72 22 ((m.1 72 22) + r5)).1 72 22).toInt = (((m.1 72 22) + r5)).toInt := rfl
      have kf27 : Fr wX12_takes m (sm_w1 m 72 22 ((m.1 72 22) + r5)) := Fr.w Fr.refl rfl
      exact s_ret ⟨(show (0 ≤ (0 : Int32).toInt) ∧ ((0 : Int32).toInt ≤ 1) ∧ (((sm_w1 m 72 22 ((m.1 72 22) + r5)).1 72 22).toInt = (m.1 72 22).toInt + (0 : Int32).toInt) by omega), ki24, kf27⟩
theorem zX12_readsHedge_c82 (m S : sm_S) (hM : zI m) (hI : zI S) (hF : Fr wX12_readsHedge m S) (hk : 0 ≤ (m.1 72 25).toInt ∧ (m.1 72 25).toInt < 14) (hc0 : (S.1 72 25).toInt = (m.1 72 25).toInt) (hc1 : (m.1 72 22).toInt ≤ (S.1 72 22).toInt) (hc2 : 0 ≤ (S.1 76 ((m.1 72 25)).toNatClampNeg).toInt) (hc3 : 0 ≤ (S.1 77 ((m.1 72 25)).toNatClampNeg).toInt) (hc4 : 1 ≤ (S.1 78 ((m.1 72 25)).toNatClampNeg).toInt) : Sf (fun r => ((0 ≤ r.1.toInt) ∧ (r.1.toInt ≤ 1) ∧ ((m.1 72 22).toInt ≤ (r.2.1 72 22).toInt)) ∧ zI r.2 ∧ Fr wX12_readsHedge m r.2) (if (0 : Int32) ≤ (S.1 82 ((m.1 72 25)).toNatClampNeg) then ((fX12_takes (103 : Int32) S).bind fun r33 => if r33.1 = (0 : Int32) then (if sm_ix (m.1 72 25) 14 then (some ((1 : Int32), (sm_w1 (sm_w1 (sm_w1 r33.2 72 26 ((S.1 72 26) ||| (0 : Int32))) 83 ((m.1 72 25)).toNatClampNeg (-1 : Int32)) 72 25 ((r33.2.1 72 25) + (1 : Int32))))) else (none)) else (if sm_ix (m.1 72 25) 14 then (some ((1 : Int32), (sm_w1 (sm_w1 (sm_w1 r33.2 72 26 ((S.1 72 26) ||| ((1 : Int32) <<< ((m.1 72 25) &&& (31 : Int32))))) 83 ((m.1 72 25)).toNatClampNeg (-1 : Int32)) 72 25 ((r33.2.1 72 25) + (1 : Int32))))) else (none))) else (some ((0 : Int32), S))) := by
  have hfu := fuE
  have kc1 : 0 ≤ (S.1 72 25).toInt ∧ (S.1 72 25).toInt ≤ 14 := hI.1 72 25
  have kc2 : 0 ≤ (S.1 72 22).toInt ∧ (S.1 72 22).toInt ≤ 80 := hI.1 72 22
  have kc3 : 0 ≤ (m.1 72 25).toInt ∧ (m.1 72 25).toInt ≤ 14 := hM.1 72 25
  have kc4 := L0
  have kc5 : (-1 : Int) ≤ (S.1 82 ((m.1 72 25)).toNatClampNeg).toInt ∧ (S.1 82 ((m.1 72 25)).toNatClampNeg).toInt ≤ 9 := hI.1 82 ((m.1 72 25)).toNatClampNeg
  refine s_le (fun kh6 => ?_) (fun kh6 => ?_)
  · have kc7 := L103
    refine s_bd (zX12_takes (103 : Int32) S (show 58 ≤ (103 : Int32).toInt ∧ (103 : Int32).toInt ≤ 126 by omega) hI) (fun r33 kr8 => ?_)
    obtain ⟨kp9, ki10, kf11⟩ := kr8
    replace kp9 : (0 ≤ r33.1.toInt) ∧ (r33.1.toInt ≤ 1) ∧ ((r33.2.1 72 22).toInt = (S.1 72 22).toInt + r33.1.toInt) := kp9
    have kc12 : 0 ≤ (r33.2.1 72 22).toInt ∧ (r33.2.1 72 22).toInt ≤ 80 := ki10.1 72 22
    have kc13 : (-1 : Int) ≤ (r33.2.1 76 ((m.1 72 25)).toNatClampNeg).toInt ∧ (r33.2.1 76 ((m.1 72 25)).toNatClampNeg).toInt ≤ 9 := ki10.1 76 ((m.1 72 25)).toNatClampNeg
    have kc14 : (r33.2.1 76 ((m.1 72 25)).toNatClampNeg).toInt = (S.1 76 ((m.1 72 25)).toNatClampNeg).toInt := congrArg Int32.toInt (kf11 76 ((m.1 72 25)).toNatClampNeg rfl)
    have kc15 : (-1 : Int) ≤ (S.1 76 ((m.1 72 25)).toNatClampNeg).toInt ∧ (S.1 76 ((m.1 72 25)).toNatClampNeg).toInt ≤ 9 := hI.1 76 ((m.1 72 25)).toNatClampNeg
    have kc16 : (-1 : Int) ≤ (r33.2.1 77 ((m.1 72 25)).toNatClampNeg).toInt ∧ (r33.2.1 77 ((m.1 72 25)).toNatClampNeg).toInt ≤ 9 := ki10.1 77 ((m.1 72 25)).toNatClampNeg
    have kc17 : (r33.2.1 77 ((m.1 72 25)).toNatClampNeg).toInt = (S.1 77 ((m.1 72 25)).toNatClampNeg).toInt := congrArg Int32.toInt (kf11 77 ((m.1 72 25)).toNatClampNeg rfl)
    have kc18 : (-1 : Int) ≤ (S.1 77 ((m.1 72 25)).toNatClampNeg).toInt ∧ (S.1 77 ((m.1 72 25)).toNatClampNeg).toInt ≤ 9 := hI.1 77 ((m.1 72 25)).toNatClampNeg
    have kc19 : (-1 : Int) ≤ (r33.2.1 78 ((m.1 72 25)).toNatClampNeg).toInt ∧ (r33.2.1 78 ((m.1 72 25)).toNatClampNeg).toInt ≤ 20 := ki10.1 78 ((m.1 72 25)).toNatClampNeg
    have kc20 : (r33.2.1 78 ((m.1 72 25)).toNatClampNeg).toInt = (S.1 78 ((m.1 72 25)).toNatClampNeg).toInt := congrArg Int32.toInt (kf11 78 ((m.1 72 25)).toNatClampNeg rfl)
    have kc21 : (-1 : Int) ≤ (S.1 78 ((m.1 72 25)).toNatClampNeg).toInt ∧ (S.1 78 ((m.1 72 25)).toNatClampNeg).toInt ≤ 20 := hI.1 78 ((m.1 72 25)).toNatClampNeg
    have kc22 : (-1 : Int) ≤ (r33.2.1 82 ((m.1 72 25)).toNatClampNeg).toInt ∧ (r33.2.1 82 ((m.1 72 25)).toNatClampNeg).toInt ≤ 9 := ki10.1 82 ((m.1 72 25)).toNatClampNeg
    have kc23 : (r33.2.1 82 ((m.1 72 25)).toNatClampNeg).toInt = (S.1 82 ((m.1 72 25)).toNatClampNeg).toInt := congrArg Int32.toInt (kf11 82 ((m.1 72 25)).toNatClampNeg rfl)
    have kc24 : 0 ≤ (r33.2.1 72 25).toInt ∧ (r33.2.1 72 25).toInt ≤ 14 := ki10.1 72 25
    have kc25 : (r33.2.1 72 25).toInt = (S.1 72 25).toInt := congrArg Int32.toInt (kf11 72 25 rfl)
    refine s_eq (fun kh26 => ?_) (fun kh26 => ?_)
    · have kx27 : 0 ≤ ((m.1 72 25)).toInt ∧ ((m.1 72 25)).toInt < (14 : Int) := by omega
      refine s_ix kx27 ?_
      have kc28 := L1
      have kc29 : 0 ≤ (S.1 72 26).toInt ∧ (S.1 72 26).toInt ≤ 16383 := hI.1 72 26
      have kc30 : 0 ≤ ((S.1 72 26) ||| (0 : Int32)).toInt ∧ ((S.1 72 26) ||| (0 : Int32)).toInt < 16384 := a_or 14 (by decide) (by decide) (by omega) (by omega) (by omega) (by omega)
      have ki31 : zI (sm_w1 r33.2 72 26 ((S.1 72 26) ||| (0 : Int32))) := zI.w ki10 rfl (show 0 ≤ (((S.1 72 26) ||| (0 : Int32))).toInt ∧ (((S.1 72 26) ||| (0 : Int32))).toInt ≤ 16383 by omega)
      have kc32 := Ln1
      have ki33 : zI (sm_w1 (sm_w1 r33.2 72 26 ((S.1 72 26) ||| (0 : Int32))) 83 ((m.1 72 25)).toNatClampNeg (-1 : Int32)) := zI.w ki31 rfl (rg _)
      have kc34 : ((r33.2.1 72 25) + (1 : Int32)).toInt = ((r33.2.1 72 25)).toInt + 1 := a_addl L1 (by omega) (by omega)
      have kc36 : 0 ≤ ((sm_w1 (sm_w1 r33.2 72 26 ((S.1 72 26) ||| (0 : Int32))) 83 ((m.1 72 25)).toNatClampNeg (-1 : Int32)).1 72 6).toInt ∧ ((sm_w1 (sm_w1 r33.2 72 26 ((S.1 72 26) ||| (0 : Int32))) 83 ((m.1 72 25)).toNatClampNeg (-1 : Int32)).1 72 6).toInt ≤ 14 := ki33.1 72 6
      have kc37 : ((sm_w1 (sm_w1 r33.2 72 26 ((S.1 72 26) ||| (0 : Int32))) 83 ((m.1 72 25)).toNatClampNeg (-1 : Int32)).1 72 6).toInt = ((sm_w1 r33.2 72 26 ((S.1 72 26) ||| (0 : Int32))).1 72 6).toInt := congrArg Int32.toInt (r_cell (by decide))
      have kc38 : 0 ≤ ((sm_w1 r33.2 72 26 ((S.1 72 26) ||| (0 : Int32))).1 72 6).toInt ∧ ((sm_w1 r33.2 72 26 ((S.1 72 26) ||| (0 : Int32))).1 72 6).toInt ≤ 14 := ki31.1 72 6
      have kc39 : ((sm_w1 r33.2 72 26 ((S.1 72 26) ||| (0 : Int32))).1 72 6).toInt = (r33.2.1 72 6).toInt := rfl
      have kc40 : 0 ≤ (r33.2.1 72 6).toInt ∧ (r33.2.1 72 6).toInt ≤ 14 := ki10.1 72 6
      have kc41 : (r33.2.1 72 6).toInt = (S.1 72 6).toInt := congrArg Int32.toInt (kf11 72 6 rfl)
      have kc42 : 0 ≤ (S.1 72 6).toInt ∧ (S.1 72 6).toInt ≤ 14 := hI.1 72 6
      have kc43 : 0 ≤ ((sm_w1 (sm_w1 r33.2 72 26 ((S.1 72 26) ||| (0 : Int32))) 83 ((m.1 72 25)).toNatClampNeg (-1 : Int32)).1 72 25).toInt ∧ ((sm_w1 (sm_w1 r33.2 72 26 ((S.1 72 26) ||| (0 : Int32))) 83 ((m.1 72 25)).toNatClampNeg (-1 : Int32)).1 72 25).toInt ≤ 14 := ki33.1 72 25
      have kc44 : ((sm_w1 (sm_w1 r33.2 72 26 ((S.1 72 26) ||| (0 : Int32))) 83 ((m.1 72 25)).toNatClampNeg (-1 : Int32)).1 72 25).toInt = ((sm_w1 r33.2 72 26 ((S.1 72 26) ||| (0 : Int32))).1 72 25).toInt := congrArg Int32.toInt (r_cell (by decide))
      have kc45 : 0 ≤ ((sm_w1 r33.2 72 26 ((S.1 72 26) ||| (0 : Int32))).1 72 25).toInt ∧ ((sm_w1 r33.2 72 26 ((S.1 72 26) ||| (0 : Int32))).1 72 25).toInt ≤ 14 := ki31.1 72 25
      have kc46 : ((sm_w1 r33.2 72 26 ((S.1 72 26) ||| (0 : Int32))).1 72 25).toInt = (r33.2.1 72 25).toInt := rfl
      have kc47 := a_tn (show 0 ≤ (m.1 72 25).toInt by omega)
      have kc48 : (-1 : Int) ≤ ((sm_w1 (sm_w1 r33.2 72 26 ((S.1 72 26) ||| (0 : Int32))) 83 ((m.1 72 25)).toNatClampNeg (-1 : Int32)).1 76 ((m.1 72 25)).toNatClampNeg).toInt ∧ ((sm_w1 (sm_w1 r33.2 72 26 ((S.1 72 26) ||| (0 : Int32))) 83 ((m.1 72 25)).toNatClampNeg (-1 : Int32)).1 76 ((m.1 72 25)).toNatClampNeg).toInt ≤ 9 := ki33.1 76 ((m.1 72 25)).toNatClampNeg
      have kc49 : ((sm_w1 (sm_w1 r33.2 72 26 ((S.1 72 26) ||| (0 : Int32))) 83 ((m.1 72 25)).toNatClampNeg (-1 : Int32)).1 76 ((m.1 72 25)).toNatClampNeg).toInt = ((sm_w1 r33.2 72 26 ((S.1 72 26) ||| (0 : Int32))).1 76 ((m.1 72 25)).toNatClampNeg).toInt := congrArg Int32.toInt (r_cell (by decide))
      have kc50 : (-1 : Int) ≤ ((sm_w1 r33.2 72 26 ((S.1 72 26) ||| (0 : Int32))).1 76 ((m.1 72 25)).toNatClampNeg).toInt ∧ ((sm_w1 r33.2 72 26 ((S.1 72 26) ||| (0 : Int32))).1 76 ((m.1 72 25)).toNatClampNeg).toInt ≤ 9 := ki31.1 76 ((m.1 72 25)).toNatClampNeg
      have kc51 : ((sm_w1 r33.2 72 26 ((S.1 72 26) ||| (0 : Int32))).1 76 ((m.1 72 25)).toNatClampNeg).toInt = (r33.2.1 76 ((m.1 72 25)).toNatClampNeg).toInt := congrArg Int32.toInt (r_cell (by decide))
      have kc52 : (-1 : Int) ≤ ((sm_w1 (sm_w1 r33.2 72 26 ((S.1 72 26) ||| (0 : Int32))) 83 ((m.1 72 25)).toNatClampNeg (-1 : Int32)).1 77 ((m.1 72 25)).toNatClampNeg).toInt ∧ ((sm_w1 (sm_w1 r33.2 72 26 ((S.1 72 26) ||| (0 : Int32))) 83 ((m.1 72 25)).toNatClampNeg (-1 : Int32)).1 77 ((m.1 72 25)).toNatClampNeg).toInt ≤ 9 := ki33.1 77 ((m.1 72 25)).toNatClampNeg
      have kc53 : ((sm_w1 (sm_w1 r33.2 72 26 ((S.1 72 26) ||| (0 : Int32))) 83 ((m.1 72 25)).toNatClampNeg (-1 : Int32)).1 77 ((m.1 72 25)).toNatClampNeg).toInt = ((sm_w1 r33.2 72 26 ((S.1 72 26) ||| (0 : Int32))).1 77 ((m.1 72 25)).toNatClampNeg).toInt := congrArg Int32.toInt (r_cell (by decide))
      have kc54 : (-1 : Int) ≤ ((sm_w1 r33.2 72 26 ((S.1 72 26) ||| (0 : Int32))).1 77 ((m.1 72 25)).toNatClampNeg).toInt ∧ ((sm_w1 r33.2 72 26 ((S.1 72 26) ||| (0 : Int32))).1 77 ((m.1 72 25)).toNatClampNeg).toInt ≤ 9 := ki31.1 77 ((m.1 72 25)).toNatClampNeg
      have kc55 : ((sm_w1 r33.2 72 26 ((S.1 72 26) ||| (0 : Int32))).1 77 ((m.1 72 25)).toNatClampNeg).toInt = (r33.2.1 77 ((m.1 72 25)).toNatClampNeg).toInt := congrArg Int32.toInt (r_cell (by decide))
      have kc56 : (-1 : Int) ≤ ((sm_w1 (sm_w1 r33.2 72 26 ((S.1 72 26) ||| (0 : Int32))) 83 ((m.1 72 25)).toNatClampNeg (-1 : Int32)).1 78 ((m.1 72 25)).toNatClampNeg).toInt ∧ ((sm_w1 (sm_w1 r33.2 72 26 ((S.1 72 26) ||| (0 : Int32))) 83 ((m.1 72 25)).toNatClampNeg (-1 : Int32)).1 78 ((m.1 72 25)).toNatClampNeg).toInt ≤ 20 := ki33.1 78 ((m.1 72 25)).toNatClampNeg
      have kc57 : ((sm_w1 (sm_w1 r33.2 72 26 ((S.1 72 26) ||| (0 : Int32))) 83 ((m.1 72 25)).toNatClampNeg (-1 : Int32)).1 78 ((m.1 72 25)).toNatClampNeg).toInt = ((sm_w1 r33.2 72 26 ((S.1 72 26) ||| (0 : Int32))).1 78 ((m.1 72 25)).toNatClampNeg).toInt := congrArg Int32.toInt (r_cell (by decide))
      have kc58 : (-1 : Int) ≤ ((sm_w1 r33.2 72 26 ((S.1 72 26) ||| (0 : Int32))).1 78 ((m.1 72 25)).toNatClampNeg).toInt ∧ ((sm_w1 r33.2 72 26 ((S.1 72 26) ||| (0 : Int32))).1 78 ((m.1 72 25)).toNatClampNeg).toInt ≤ 20 := ki31.1 78 ((m.1 72 25)).toNatClampNeg
      have kc59 : ((sm_w1 r33.2 72 26 ((S.1 72 26) ||| (0 : Int32))).1 78 ((m.1 72 25)).toNatClampNeg).toInt = (r33.2.1 78 ((m.1 72 25)).toNatClampNeg).toInt := congrArg Int32.toInt (r_cell (by decide))
      have kc60 : (-1 : Int) ≤ ((sm_w1 (sm_w1 r33.2 72 26 ((S.1 72 26) ||| (0 : Int32))) 83 ((m.1 72 25)).toNatClampNeg (-1 : Int32)).1 82 ((m.1 72 25)).toNatClampNeg).toInt ∧ ((sm_w1 (sm_w1 r33.2 72 26 ((S.1 72 26) ||| (0 : Int32))) 83 ((m.1 72 25)).toNatClampNeg (-1 : Int32)).1 82 ((m.1 72 25)).toNatClampNeg).toInt ≤ 9 := ki33.1 82 ((m.1 72 25)).toNatClampNeg
      have kc61 : ((sm_w1 (sm_w1 r33.2 72 26 ((S.1 72 26) ||| (0 : Int32))) 83 ((m.1 72 25)).toNatClampNeg (-1 : Int32)).1 82 ((m.1 72 25)).toNatClampNeg).toInt = ((sm_w1 r33.2 72 26 ((S.1 72 26) ||| (0 : Int32))).1 82 ((m.1 72 25)).toNatClampNeg).toInt := congrArg Int32.toInt (r_cell (by decide))
      have kc62 : (-1 : Int) ≤ ((sm_w1 r33.2 72 26 ((S.1 72 26) ||| (0 : Int32))).1 82 ((m.1 72 25)).toNatClampNeg).toInt ∧ ((sm_w1 r33.2 72 26 ((S.1 72 26) ||| (0 : Int32))).1 82 ((m.1 72 25)).toNatClampNeg).toInt ≤ 9 := ki31.1 82 ((m.1 72 25)).toNatClampNeg
      have kc63 : ((sm_w1 r33.2 72 26 ((S.1 72 26) ||| (0 : Int32))).1 82 ((m.1 72 25)).toNatClampNeg).toInt = (r33.2.1 82 ((m.1 72 25)).toNatClampNeg).toInt := congrArg Int32.toInt (r_cell (by decide))
      have ki35 : zI (sm_w1 (sm_w1 (sm_w1 r33.2 72 26 ((S.1 72 26) ||| (0 : Int32))) 83 ((m.1 72 25)).toNatClampNeg (-1 : Int32)) 72 25 ((r33.2.1 72 25) + (1 : Int32))) := zI.w25b ((m.1 72 25)).toNatClampNeg ki33 (show 0 ≤ (((r33.2.1 72 25) + (1 : Int32))).toInt ∧ (((r33.2.1 72 25) + (1 : Int32))).toInt ≤ 14 by omega) (show (((r33.2.1 72 25) + (1 : Int32))).toInt = ((sm_w1 (sm_w1 r33.2 72 26 ((S.1 72 26) ||| (0 : Int32))) 83 ((m.1 72 25)).toNatClampNeg (-1 : Int32)).1 72 25).toInt + 1 by omega) (show ((((m.1 72 25)).toNatClampNeg : Nat) : Int) = ((sm_w1 (sm_w1 r33.2 72 26 ((S.1 72 26) ||| (0 : Int32))) 83 ((m.1 72 25)).toNatClampNeg (-1 : Int32)).1 72 25).toInt by omega) (show 0 ≤ ((sm_w1 (sm_w1 r33.2 72 26 ((S.1 72 26) ||| (0 : Int32))) 83 ((m.1 72 25)).toNatClampNeg (-1 : Int32)).1 76 ((m.1 72 25)).toNatClampNeg).toInt by omega) (show 0 ≤ ((sm_w1 (sm_w1 r33.2 72 26 ((S.1 72 26) ||| (0 : Int32))) 83 ((m.1 72 25)).toNatClampNeg (-1 : Int32)).1 77 ((m.1 72 25)).toNatClampNeg).toInt by omega) (show 1 ≤ ((sm_w1 (sm_w1 r33.2 72 26 ((S.1 72 26) ||| (0 : Int32))) 83 ((m.1 72 25)).toNatClampNeg (-1 : Int32)).1 78 ((m.1 72 25)).toNatClampNeg).toInt by omega) (show 0 ≤ ((sm_w1 (sm_w1 r33.2 72 26 ((S.1 72 26) ||| (0 : Int32))) 83 ((m.1 72 25)).toNatClampNeg (-1 : Int32)).1 82 ((m.1 72 25)).toNatClampNeg).toInt by omega)
      have kc64 : 0 ≤ ((sm_w1 (sm_w1 (sm_w1 r33.2 72 26 ((S.1 72 26) ||| (0 : Int32))) 83 ((m.1 72 25)).toNatClampNeg (-1 : Int32)) 72 25 ((r33.2.1 72 25) + (1 : Int32))).1 72 22).toInt ∧ ((sm_w1 (sm_w1 (sm_w1 r33.2 72 26 ((S.1 72 26) ||| (0 : Int32))) 83 ((m.1 72 25)).toNatClampNeg (-1 : Int32)) 72 25 ((r33.2.1 72 25) + (1 : Int32))).1 72 22).toInt ≤ 80 := ki35.1 72 22
      have kc65 : ((sm_w1 (sm_w1 (sm_w1 r33.2 72 26 ((S.1 72 26) ||| (0 : Int32))) 83 ((m.1 72 25)).toNatClampNeg (-1 : Int32)) 72 25 ((r33.2.1 72 25) + (1 : Int32))).1 72 22).toInt = ((sm_w1 (sm_w1 r33.2 72 26 ((S.1 72 26) ||| (0 : Int32))) 83 ((m.1 72 25)).toNatClampNeg (-1 : Int32)).1 72 22).toInt := rfl
      have kc66 : 0 ≤ ((sm_w1 (sm_w1 r33.2 72 26 ((S.1 72 26) ||| (0 : Int32))) 83 ((m.1 72 25)).toNatClampNeg (-1 : Int32)).1 72 22).toInt ∧ ((sm_w1 (sm_w1 r33.2 72 26 ((S.1 72 26) ||| (0 : Int32))) 83 ((m.1 72 25)).toNatClampNeg (-1 : Int32)).1 72 22).toInt ≤ 80 := ki33.1 72 22
      have kc67 : ((sm_w1 (sm_w1 r33.2 72 26 ((S.1 72 26) ||| (0 : Int32))) 83 ((m.1 72 25)).toNatClampNeg (-1 : Int32)).1 72 22).toInt = ((sm_w1 r33.2 72 26 ((S.1 72 26) ||| (0 : Int32))).1 72 22).toInt := congrArg Int32.toInt (r_cell (by decide))
      have kc68 : 0 ≤ ((sm_w1 r33.2 72 26 ((S.1 72 26) ||| (0 : Int32))).1 72 22).toInt ∧ ((sm_w1 r33.2 72 26 ((S.1 72 26) ||| (0 : Int32))).1 72 22).toInt ≤ 80 := ki31.1 72 22
      have kc69 : ((sm_w1 r33.2 72 26 ((S.1 72 26) ||| (0 : Int32))).1 72 22).toInt = (r33.2.1 72 22).toInt := rfl
      have kc70 : 0 ≤ (m.1 72 22).toInt ∧ (m.1 72 22).toInt ≤ 80 := hM.1 72 22
      have kf71 : Fr wX12_readsHedge m r33.2 := Fr.trans hF kf11 rfl
      have kf72 : Fr wX12_readsHedge m (sm_w1 r33.2 72 26 ((S.1 72 26) ||| (0 : Int32))) := Fr.w kf71 rfl
      have kf73 : Fr wX12_readsHedge m (sm_w1 (sm_w1 r33.2 72 26 ((S.1 72 26) ||| (0 : Int32))) 83 ((m.1 72 25)).toNatClampNeg (-1 : Int32)) := Fr.w kf72 rfl
      have kf74 : Fr wX12_readsHedge m (sm_w1 (sm_w1 (sm_w1 r33.2 72 26 ((S.1 72 26) ||| (0 : Int32))) 83 ((m.1 72 25)).toNatClampNeg (-1 : Int32)) 72 25 ((r33.2.1 72 25) + (1 : Int32))) := Fr.w kf73 rfl
      exact s_ret ⟨(show (0 ≤ (1 : Int32).toInt) ∧ ((1 : Int32).toInt ≤ 1) ∧ ((m.1 72 22).toInt ≤ ((sm_w1 (sm_w1 (sm_w1 r33.2 72 26 ((S.1 72 26) ||| (0 : Int32))) 83 ((m.1 72 25)).toNatClampNeg (-1 : Int32)) 72 25 ((r33.2.1 72 25) + (1 : Int32))).1 72 22).toInt) by omega), ki35, kf74⟩
    · have kx75 : 0 ≤ ((m.1 72 25)).toInt ∧ ((m.1 72 25)).toInt < (14 : Int) := by omega
      refine s_ix kx75 ?_
      have kc76 := L1
      have kc77 : 0 ≤ (S.1 72 26).toInt ∧ (S.1 72 26).toInt ≤ 16383 := hI.1 72 26
      have kc78 := L31
      have kc79 : 0 ≤ ((m.1 72 25) &&& (31 : Int32)).toInt ∧ ((m.1 72 25) &&& (31 : Int32)).toInt ≤ ((31 : Int32)).toInt := a_andr (by omega)
      have kc80 : 0 ≤ ((m.1 72 25) &&& (31 : Int32)).toInt ∧ ((m.1 72 25) &&& (31 : Int32)).toInt ≤ ((m.1 72 25)).toInt := a_andl (by omega)
      have kc81 : 1 ≤ ((1 : Int32) <<< ((m.1 72 25) &&& (31 : Int32))).toInt ∧ ((1 : Int32) <<< ((m.1 72 25) &&& (31 : Int32))).toInt ≤ 8192 := a_shl 13 (by decide) (by decide) (by omega) (by omega)
      have kc82 : 0 ≤ ((S.1 72 26) ||| ((1 : Int32) <<< ((m.1 72 25) &&& (31 : Int32)))).toInt ∧ ((S.1 72 26) ||| ((1 : Int32) <<< ((m.1 72 25) &&& (31 : Int32)))).toInt < 16384 := a_or 14 (by decide) (by decide) (by omega) (by omega) (by omega) (by omega)
      have ki83 : zI (sm_w1 r33.2 72 26 ((S.1 72 26) ||| ((1 : Int32) <<< ((m.1 72 25) &&& (31 : Int32))))) := zI.w ki10 rfl (show 0 ≤ (((S.1 72 26) ||| ((1 : Int32) <<< ((m.1 72 25) &&& (31 : Int32))))).toInt ∧ (((S.1 72 26) ||| ((1 : Int32) <<< ((m.1 72 25) &&& (31 : Int32))))).toInt ≤ 16383 by omega)
      have kc84 := Ln1
      have ki85 : zI (sm_w1 (sm_w1 r33.2 72 26 ((S.1 72 26) ||| ((1 : Int32) <<< ((m.1 72 25) &&& (31 : Int32))))) 83 ((m.1 72 25)).toNatClampNeg (-1 : Int32)) := zI.w ki83 rfl (rg _)
      have kc86 : ((r33.2.1 72 25) + (1 : Int32)).toInt = ((r33.2.1 72 25)).toInt + 1 := a_addl L1 (by omega) (by omega)
      have kc88 : 0 ≤ ((sm_w1 (sm_w1 r33.2 72 26 ((S.1 72 26) ||| ((1 : Int32) <<< ((m.1 72 25) &&& (31 : Int32))))) 83 ((m.1 72 25)).toNatClampNeg (-1 : Int32)).1 72 6).toInt ∧ ((sm_w1 (sm_w1 r33.2 72 26 ((S.1 72 26) ||| ((1 : Int32) <<< ((m.1 72 25) &&& (31 : Int32))))) 83 ((m.1 72 25)).toNatClampNeg (-1 : Int32)).1 72 6).toInt ≤ 14 := ki85.1 72 6
      have kc89 : ((sm_w1 (sm_w1 r33.2 72 26 ((S.1 72 26) ||| ((1 : Int32) <<< ((m.1 72 25) &&& (31 : Int32))))) 83 ((m.1 72 25)).toNatClampNeg (-1 : Int32)).1 72 6).toInt = ((sm_w1 r33.2 72 26 ((S.1 72 26) ||| ((1 : Int32) <<< ((m.1 72 25) &&& (31 : Int32))))).1 72 6).toInt := congrArg Int32.toInt (r_cell (by decide))
      have kc90 : 0 ≤ ((sm_w1 r33.2 72 26 ((S.1 72 26) ||| ((1 : Int32) <<< ((m.1 72 25) &&& (31 : Int32))))).1 72 6).toInt ∧ ((sm_w1 r33.2 72 26 ((S.1 72 26) ||| ((1 : Int32) <<< ((m.1 72 25) &&& (31 : Int32))))).1 72 6).toInt ≤ 14 := ki83.1 72 6
      have kc91 : ((sm_w1 r33.2 72 26 ((S.1 72 26) ||| ((1 : Int32) <<< ((m.1 72 25) &&& (31 : Int32))))).1 72 6).toInt = (r33.2.1 72 6).toInt := rfl
      have kc92 : 0 ≤ (r33.2.1 72 6).toInt ∧ (r33.2.1 72 6).toInt ≤ 14 := ki10.1 72 6
      have kc93 : (r33.2.1 72 6).toInt = (S.1 72 6).toInt := congrArg Int32.toInt (kf11 72 6 rfl)
      have kc94 : 0 ≤ (S.1 72 6).toInt ∧ (S.1 72 6).toInt ≤ 14 := hI.1 72 6
      have kc95 : 0 ≤ ((sm_w1 (sm_w1 r33.2 72 26 ((S.1 72 26) ||| ((1 : Int32) <<< ((m.1 72 25) &&& (31 : Int32))))) 83 ((m.1 72 25)).toNatClampNeg (-1 : Int32)).1 72 25).toInt ∧ ((sm_w1 (sm_w1 r33.2 72 26 ((S.1 72 26) ||| ((1 : Int32) <<< ((m.1 72 25) &&& (31 : Int32))))) 83 ((m.1 72 25)).toNatClampNeg (-1 : Int32)).1 72 25).toInt ≤ 14 := ki85.1 72 25
      have kc96 : ((sm_w1 (sm_w1 r33.2 72 26 ((S.1 72 26) ||| ((1 : Int32) <<< ((m.1 72 25) &&& (31 : Int32))))) 83 ((m.1 72 25)).toNatClampNeg (-1 : Int32)).1 72 25).toInt = ((sm_w1 r33.2 72 26 ((S.1 72 26) ||| ((1 : Int32) <<< ((m.1 72 25) &&& (31 : Int32))))).1 72 25).toInt := congrArg Int32.toInt (r_cell (by decide))
      have kc97 : 0 ≤ ((sm_w1 r33.2 72 26 ((S.1 72 26) ||| ((1 : Int32) <<< ((m.1 72 25) &&& (31 : Int32))))).1 72 25).toInt ∧ ((sm_w1 r33.2 72 26 ((S.1 72 26) ||| ((1 : Int32) <<< ((m.1 72 25) &&& (31 : Int32))))).1 72 25).toInt ≤ 14 := ki83.1 72 25
      have kc98 : ((sm_w1 r33.2 72 26 ((S.1 72 26) ||| ((1 : Int32) <<< ((m.1 72 25) &&& (31 : Int32))))).1 72 25).toInt = (r33.2.1 72 25).toInt := rfl
      have kc99 := a_tn (show 0 ≤ (m.1 72 25).toInt by omega)
      have kc100 : (-1 : Int) ≤ ((sm_w1 (sm_w1 r33.2 72 26 ((S.1 72 26) ||| ((1 : Int32) <<< ((m.1 72 25) &&& (31 : Int32))))) 83 ((m.1 72 25)).toNatClampNeg (-1 : Int32)).1 76 ((m.1 72 25)).toNatClampNeg).toInt ∧ ((sm_w1 (sm_w1 r33.2 72 26 ((S.1 72 26) ||| ((1 : Int32) <<< ((m.1 72 25) &&& (31 : Int32))))) 83 ((m.1 72 25)).toNatClampNeg (-1 : Int32)).1 76 ((m.1 72 25)).toNatClampNeg).toInt ≤ 9 := ki85.1 76 ((m.1 72 25)).toNatClampNeg
      have kc101 : ((sm_w1 (sm_w1 r33.2 72 26 ((S.1 72 26) ||| ((1 : Int32) <<< ((m.1 72 25) &&& (31 : Int32))))) 83 ((m.1 72 25)).toNatClampNeg (-1 : Int32)).1 76 ((m.1 72 25)).toNatClampNeg).toInt = ((sm_w1 r33.2 72 26 ((S.1 72 26) ||| ((1 : Int32) <<< ((m.1 72 25) &&& (31 : Int32))))).1 76 ((m.1 72 25)).toNatClampNeg).toInt := congrArg Int32.toInt (r_cell (by decide))
      have kc102 : (-1 : Int) ≤ ((sm_w1 r33.2 72 26 ((S.1 72 26) ||| ((1 : Int32) <<< ((m.1 72 25) &&& (31 : Int32))))).1 76 ((m.1 72 25)).toNatClampNeg).toInt ∧ ((sm_w1 r33.2 72 26 ((S.1 72 26) ||| ((1 : Int32) <<< ((m.1 72 25) &&& (31 : Int32))))).1 76 ((m.1 72 25)).toNatClampNeg).toInt ≤ 9 := ki83.1 76 ((m.1 72 25)).toNatClampNeg
      have kc103 : ((sm_w1 r33.2 72 26 ((S.1 72 26) ||| ((1 : Int32) <<< ((m.1 72 25) &&& (31 : Int32))))).1 76 ((m.1 72 25)).toNatClampNeg).toInt = (r33.2.1 76 ((m.1 72 25)).toNatClampNeg).toInt := congrArg Int32.toInt (r_cell (by decide))
      have kc104 : (-1 : Int) ≤ ((sm_w1 (sm_w1 r33.2 72 26 ((S.1 72 26) ||| ((1 : Int32) <<< ((m.1 72 25) &&& (31 : Int32))))) 83 ((m.1 72 25)).toNatClampNeg (-1 : Int32)).1 77 ((m.1 72 25)).toNatClampNeg).toInt ∧ ((sm_w1 (sm_w1 r33.2 72 26 ((S.1 72 26) ||| ((1 : Int32) <<< ((m.1 72 25) &&& (31 : Int32))))) 83 ((m.1 72 25)).toNatClampNeg (-1 : Int32)).1 77 ((m.1 72 25)).toNatClampNeg).toInt ≤ 9 := ki85.1 77 ((m.1 72 25)).toNatClampNeg
      have kc105 : ((sm_w1 (sm_w1 r33.2 72 26 ((S.1 72 26) ||| ((1 : Int32) <<< ((m.1 72 25) &&& (31 : Int32))))) 83 ((m.1 72 25)).toNatClampNeg (-1 : Int32)).1 77 ((m.1 72 25)).toNatClampNeg).toInt = ((sm_w1 r33.2 72 26 ((S.1 72 26) ||| ((1 : Int32) <<< ((m.1 72 25) &&& (31 : Int32))))).1 77 ((m.1 72 25)).toNatClampNeg).toInt := congrArg Int32.toInt (r_cell (by decide))
      have kc106 : (-1 : Int) ≤ ((sm_w1 r33.2 72 26 ((S.1 72 26) ||| ((1 : Int32) <<< ((m.1 72 25) &&& (31 : Int32))))).1 77 ((m.1 72 25)).toNatClampNeg).toInt ∧ ((sm_w1 r33.2 72 26 ((S.1 72 26) ||| ((1 : Int32) <<< ((m.1 72 25) &&& (31 : Int32))))).1 77 ((m.1 72 25)).toNatClampNeg).toInt ≤ 9 := ki83.1 77 ((m.1 72 25)).toNatClampNeg
      have kc107 : ((sm_w1 r33.2 72 26 ((S.1 72 26) ||| ((1 : Int32) <<< ((m.1 72 25) &&& (31 : Int32))))).1 77 ((m.1 72 25)).toNatClampNeg).toInt = (r33.2.1 77 ((m.1 72 25)).toNatClampNeg).toInt := congrArg Int32.toInt (r_cell (by decide))
      have kc108 : (-1 : Int) ≤ ((sm_w1 (sm_w1 r33.2 72 26 ((S.1 72 26) ||| ((1 : Int32) <<< ((m.1 72 25) &&& (31 : Int32))))) 83 ((m.1 72 25)).toNatClampNeg (-1 : Int32)).1 78 ((m.1 72 25)).toNatClampNeg).toInt ∧ ((sm_w1 (sm_w1 r33.2 72 26 ((S.1 72 26) ||| ((1 : Int32) <<< ((m.1 72 25) &&& (31 : Int32))))) 83 ((m.1 72 25)).toNatClampNeg (-1 : Int32)).1 78 ((m.1 72 25)).toNatClampNeg).toInt ≤ 20 := ki85.1 78 ((m.1 72 25)).toNatClampNeg
      have kc109 : ((sm_w1 (sm_w1 r33.2 72 26 ((S.1 72 26) ||| ((1 : Int32) <<< ((m.1 72 25) &&& (31 : Int32))))) 83 ((m.1 72 25)).toNatClampNeg (-1 : Int32)).1 78 ((m.1 72 25)).toNatClampNeg).toInt = ((sm_w1 r33.2 72 26 ((S.1 72 26) ||| ((1 : Int32) <<< ((m.1 72 25) &&& (31 : Int32))))).1 78 ((m.1 72 25)).toNatClampNeg).toInt := congrArg Int32.toInt (r_cell (by decide))
      have kc110 : (-1 : Int) ≤ ((sm_w1 r33.2 72 26 ((S.1 72 26) ||| ((1 : Int32) <<< ((m.1 72 25) &&& (31 : Int32))))).1 78 ((m.1 72 25)).toNatClampNeg).toInt ∧ ((sm_w1 r33.2 72 26 ((S.1 72 26) ||| ((1 : Int32) <<< ((m.1 72 25) &&& (31 : Int32))))).1 78 ((m.1 72 25)).toNatClampNeg).toInt ≤ 20 := ki83.1 78 ((m.1 72 25)).toNatClampNeg
      have kc111 : ((sm_w1 r33.2 72 26 ((S.1 72 26) ||| ((1 : Int32) <<< ((m.1 72 25) &&& (31 : Int32))))).1 78 ((m.1 72 25)).toNatClampNeg).toInt = (r33.2.1 78 ((m.1 72 25)).toNatClampNeg).toInt := congrArg Int32.toInt (r_cell (by decide))
      have kc112 : (-1 : Int) ≤ ((sm_w1 (sm_w1 r33.2 72 26 ((S.1 72 26) ||| ((1 : Int32) <<< ((m.1 72 25) &&& (31 : Int32))))) 83 ((m.1 72 25)).toNatClampNeg (-1 : Int32)).1 82 ((m.1 72 25)).toNatClampNeg).toInt ∧ ((sm_w1 (sm_w1 r33.2 72 26 ((S.1 72 26) ||| ((1 : Int32) <<< ((m.1 72 25) &&& (31 : Int32))))) 83 ((m.1 72 25)).toNatClampNeg (-1 : Int32)).1 82 ((m.1 72 25)).toNatClampNeg).toInt ≤ 9 := ki85.1 82 ((m.1 72 25)).toNatClampNeg
      have kc113 : ((sm_w1 (sm_w1 r33.2 72 26 ((S.1 72 26) ||| ((1 : Int32) <<< ((m.1 72 25) &&& (31 : Int32))))) 83 ((m.1 72 25)).toNatClampNeg (-1 : Int32)).1 82 ((m.1 72 25)).toNatClampNeg).toInt = ((sm_w1 r33.2 72 26 ((S.1 72 26) ||| ((1 : Int32) <<< ((m.1 72 25) &&& (31 : Int32))))).1 82 ((m.1 72 25)).toNatClampNeg).toInt := congrArg Int32.toInt (r_cell (by decide))
      have kc114 : (-1 : Int) ≤ ((sm_w1 r33.2 72 26 ((S.1 72 26) ||| ((1 : Int32) <<< ((m.1 72 25) &&& (31 : Int32))))).1 82 ((m.1 72 25)).toNatClampNeg).toInt ∧ ((sm_w1 r33.2 72 26 ((S.1 72 26) ||| ((1 : Int32) <<< ((m.1 72 25) &&& (31 : Int32))))).1 82 ((m.1 72 25)).toNatClampNeg).toInt ≤ 9 := ki83.1 82 ((m.1 72 25)).toNatClampNeg
      have kc115 : ((sm_w1 r33.2 72 26 ((S.1 72 26) ||| ((1 : Int32) <<< ((m.1 72 25) &&& (31 : Int32))))).1 82 ((m.1 72 25)).toNatClampNeg).toInt = (r33.2.1 82 ((m.1 72 25)).toNatClampNeg).toInt := congrArg Int32.toInt (r_cell (by decide))
      have ki87 : zI (sm_w1 (sm_w1 (sm_w1 r33.2 72 26 ((S.1 72 26) ||| ((1 : Int32) <<< ((m.1 72 25) &&& (31 : Int32))))) 83 ((m.1 72 25)).toNatClampNeg (-1 : Int32)) 72 25 ((r33.2.1 72 25) + (1 : Int32))) := zI.w25b ((m.1 72 25)).toNatClampNeg ki85 (show 0 ≤ (((r33.2.1 72 25) + (1 : Int32))).toInt ∧ (((r33.2.1 72 25) + (1 : Int32))).toInt ≤ 14 by omega) (show (((r33.2.1 72 25) + (1 : Int32))).toInt = ((sm_w1 (sm_w1 r33.2 72 26 ((S.1 72 26) ||| ((1 : Int32) <<< ((m.1 72 25) &&& (31 : Int32))))) 83 ((m.1 72 25)).toNatClampNeg (-1 : Int32)).1 72 25).toInt + 1 by omega) (show ((((m.1 72 25)).toNatClampNeg : Nat) : Int) = ((sm_w1 (sm_w1 r33.2 72 26 ((S.1 72 26) ||| ((1 : Int32) <<< ((m.1 72 25) &&& (31 : Int32))))) 83 ((m.1 72 25)).toNatClampNeg (-1 : Int32)).1 72 25).toInt by omega) (show 0 ≤ ((sm_w1 (sm_w1 r33.2 72 26 ((S.1 72 26) ||| ((1 : Int32) <<< ((m.1 72 25) &&& (31 : Int32))))) 83 ((m.1 72 25)).toNatClampNeg (-1 : Int32)).1 76 ((m.1 72 25)).toNatClampNeg).toInt by omega) (show 0 ≤ ((sm_w1 (sm_w1 r33.2 72 26 ((S.1 72 26) ||| ((1 : Int32) <<< ((m.1 72 25) &&& (31 : Int32))))) 83 ((m.1 72 25)).toNatClampNeg (-1 : Int32)).1 77 ((m.1 72 25)).toNatClampNeg).toInt by omega) (show 1 ≤ ((sm_w1 (sm_w1 r33.2 72 26 ((S.1 72 26) ||| ((1 : Int32) <<< ((m.1 72 25) &&& (31 : Int32))))) 83 ((m.1 72 25)).toNatClampNeg (-1 : Int32)).1 78 ((m.1 72 25)).toNatClampNeg).toInt by omega) (show 0 ≤ ((sm_w1 (sm_w1 r33.2 72 26 ((S.1 72 26) ||| ((1 : Int32) <<< ((m.1 72 25) &&& (31 : Int32))))) 83 ((m.1 72 25)).toNatClampNeg (-1 : Int32)).1 82 ((m.1 72 25)).toNatClampNeg).toInt by omega)
      have kc116 : 0 ≤ ((sm_w1 (sm_w1 (sm_w1 r33.2 72 26 ((S.1 72 26) ||| ((1 : Int32) <<< ((m.1 72 25) &&& (31 : Int32))))) 83 ((m.1 72 25)).toNatClampNeg (-1 : Int32)) 72 25 ((r33.2.1 72 25) + (1 : Int32))).1 72 22).toInt ∧ ((sm_w1 (sm_w1 (sm_w1 r33.2 72 26 ((S.1 72 26) ||| ((1 : Int32) <<< ((m.1 72 25) &&& (31 : Int32))))) 83 ((m.1 72 25)).toNatClampNeg (-1 : Int32)) 72 25 ((r33.2.1 72 25) + (1 : Int32))).1 72 22).toInt ≤ 80 := ki87.1 72 22
      have kc117 : ((sm_w1 (sm_w1 (sm_w1 r33.2 72 26 ((S.1 72 26) ||| ((1 : Int32) <<< ((m.1 72 25) &&& (31 : Int32))))) 83 ((m.1 72 25)).toNatClampNeg (-1 : Int32)) 72 25 ((r33.2.1 72 25) + (1 : Int32))).1 72 22).toInt = ((sm_w1 (sm_w1 r33.2 72 26 ((S.1 72 26) ||| ((1 : Int32) <<< ((m.1 72 25) &&& (31 : Int32))))) 83 ((m.1 72 25)).toNatClampNeg (-1 : Int32)).1 72 22).toInt := rfl
      have kc118 : 0 ≤ ((sm_w1 (sm_w1 r33.2 72 26 ((S.1 72 26) ||| ((1 : Int32) <<< ((m.1 72 25) &&& (31 : Int32))))) 83 ((m.1 72 25)).toNatClampNeg (-1 : Int32)).1 72 22).toInt ∧ ((sm_w1 (sm_w1 r33.2 72 26 ((S.1 72 26) ||| ((1 : Int32) <<< ((m.1 72 25) &&& (31 : Int32))))) 83 ((m.1 72 25)).toNatClampNeg (-1 : Int32)).1 72 22).toInt ≤ 80 := ki85.1 72 22
      have kc119 : ((sm_w1 (sm_w1 r33.2 72 26 ((S.1 72 26) ||| ((1 : Int32) <<< ((m.1 72 25) &&& (31 : Int32))))) 83 ((m.1 72 25)).toNatClampNeg (-1 : Int32)).1 72 22).toInt = ((sm_w1 r33.2 72 26 ((S.1 72 26) ||| ((1 : Int32) <<< ((m.1 72 25) &&& (31 : Int32))))).1 72 22).toInt := congrArg Int32.toInt (r_cell (by decide))
      have kc120 : 0 ≤ ((sm_w1 r33.2 72 26 ((S.1 72 26) ||| ((1 : Int32) <<< ((m.1 72 25) &&& (31 : Int32))))).1 72 22).toInt ∧ ((sm_w1 r33.2 72 26 ((S.1 72 26) ||| ((1 : Int32) <<< ((m.1 72 25) &&& (31 : Int32))))).1 72 22).toInt ≤ 80 := ki83.1 72 22
      have kc121 : ((sm_w1 r33.2 72 26 ((S.1 72 26) ||| ((1 : Int32) <<< ((m.1 72 25) &&& (31 : Int32))))).1 72 22).toInt = (r33.2.1 72 22).toInt := rfl
      have kc122 : 0 ≤ (m.1 72 22).toInt ∧ (m.1 72 22).toInt ≤ 80 := hM.1 72 22
      have kf123 : Fr wX12_readsHedge m r33.2 := Fr.trans hF kf11 rfl
      have kf124 : Fr wX12_readsHedge m (sm_w1 r33.2 72 26 ((S.1 72 26) ||| ((1 : Int32) <<< ((m.1 72 25) &&& (31 : Int32))))) := Fr.w kf123 rfl
      have kf125 : Fr wX12_readsHedge m (sm_w1 (sm_w1 r33.2 72 26 ((S.1 72 26) ||| ((1 : Int32) <<< ((m.1 72 25) &&& (31 : Int32))))) 83 ((m.1 72 25)).toNatClampNeg (-1 : Int32)) := Fr.w kf124 rfl
      have kf126 : Fr wX12_readsHedge m (sm_w1 (sm_w1 (sm_w1 r33.2 72 26 ((S.1 72 26) ||| ((1 : Int32) <<< ((m.1 72 25) &&& (31 : Int32))))) 83 ((m.1 72 25)).toNatClampNeg (-1 : Int32)) 72 25 ((r33.2.1 72 25) + (1 : Int32))) := Fr.w kf125 rfl
      exact s_ret ⟨(show (0 ≤ (1 : Int32).toInt) ∧ ((1 : Int32).toInt ≤ 1) ∧ ((m.1 72 22).toInt ≤ ((sm_w1 (sm_w1 (sm_w1 r33.2 72 26 ((S.1 72 26) ||| ((1 : Int32) <<< ((m.1 72 25) &&& (31 : Int32))))) 83 ((m.1 72 25)).toNatClampNeg (-1 : Int32)) 72 25 ((r33.2.1 72 25) + (1 : Int32))).1 72 22).toInt) by omega), ki87, kf126⟩
  · have kc127 : 0 ≤ (m.1 72 22).toInt ∧ (m.1 72 22).toInt ≤ 80 := hM.1 72 22
    exact s_ret ⟨(show (0 ≤ (0 : Int32).toInt) ∧ ((0 : Int32).toInt ≤ 1) ∧ ((m.1 72 22).toInt ≤ (S.1 72 22).toInt) by omega), hI, hF⟩
theorem zX12_readsHedge_c81 (m S : sm_S) (hM : zI m) (hI : zI S) (hF : Fr wX12_readsHedge m S) (hk : 0 ≤ (m.1 72 25).toInt ∧ (m.1 72 25).toInt < 14) (hc0 : (S.1 72 25).toInt = (m.1 72 25).toInt) (hc1 : (m.1 72 22).toInt ≤ (S.1 72 22).toInt) (hc2 : 0 ≤ (S.1 76 ((m.1 72 25)).toNatClampNeg).toInt) (hc3 : 0 ≤ (S.1 77 ((m.1 72 25)).toNatClampNeg).toInt) (hc4 : 1 ≤ (S.1 78 ((m.1 72 25)).toNatClampNeg).toInt) : Sf (fun r => ((0 ≤ r.1.toInt) ∧ (r.1.toInt ≤ 1) ∧ ((m.1 72 22).toInt ≤ (r.2.1 72 22).toInt)) ∧ zI r.2 ∧ Fr wX12_readsHedge m r.2) (if (0 : Int32) ≤ (S.1 81 ((m.1 72 25)).toNatClampNeg) then ((fX12_takes (126 : Int32) S).bind fun r29 => if r29.1 = (0 : Int32) then (if sm_ix (m.1 72 25) 14 then (if sm_ix (m.1 72 25) 14 then (if (0 : Int32) ≤ ((sm_w1 r29.2 82 ((m.1 72 25)).toNatClampNeg (0 : Int32)).1 82 ((m.1 72 25)).toNatClampNeg) then ((fX12_takes (103 : Int32) (sm_w1 r29.2 82 ((m.1 72 25)).toNatClampNeg (0 : Int32))).bind fun r33 => if r33.1 = (0 : Int32) then (if sm_ix (m.1 72 25) 14 then (some ((1 : Int32), (sm_w1 (sm_w1 (sm_w1 r33.2 72 26 ((r29.2.1 72 26) ||| (0 : Int32))) 83 ((m.1 72 25)).toNatClampNeg (-1 : Int32)) 72 25 ((r33.2.1 72 25) + (1 : Int32))))) else (none)) else (if sm_ix (m.1 72 25) 14 then (some ((1 : Int32), (sm_w1 (sm_w1 (sm_w1 r33.2 72 26 ((r29.2.1 72 26) ||| ((1 : Int32) <<< ((m.1 72 25) &&& (31 : Int32))))) 83 ((m.1 72 25)).toNatClampNeg (-1 : Int32)) 72 25 ((r33.2.1 72 25) + (1 : Int32))))) else (none))) else (some ((0 : Int32), (sm_w1 r29.2 82 ((m.1 72 25)).toNatClampNeg (0 : Int32))))) else (none)) else (none)) else ((fX12_digit (9 : Int32) r29.2).bind fun r37 => if sm_ix (m.1 72 25) 14 then (if sm_ix (m.1 72 25) 14 then (if (0 : Int32) ≤ ((sm_w1 r37.2 82 ((m.1 72 25)).toNatClampNeg r37.1).1 82 ((m.1 72 25)).toNatClampNeg) then ((fX12_takes (103 : Int32) (sm_w1 r37.2 82 ((m.1 72 25)).toNatClampNeg r37.1)).bind fun r41 => if r41.1 = (0 : Int32) then (if sm_ix (m.1 72 25) 14 then (some ((1 : Int32), (sm_w1 (sm_w1 (sm_w1 r41.2 72 26 ((r37.2.1 72 26) ||| (0 : Int32))) 83 ((m.1 72 25)).toNatClampNeg (-1 : Int32)) 72 25 ((r41.2.1 72 25) + (1 : Int32))))) else (none)) else (if sm_ix (m.1 72 25) 14 then (some ((1 : Int32), (sm_w1 (sm_w1 (sm_w1 r41.2 72 26 ((r37.2.1 72 26) ||| ((1 : Int32) <<< ((m.1 72 25) &&& (31 : Int32))))) 83 ((m.1 72 25)).toNatClampNeg (-1 : Int32)) 72 25 ((r41.2.1 72 25) + (1 : Int32))))) else (none))) else (some ((0 : Int32), (sm_w1 r37.2 82 ((m.1 72 25)).toNatClampNeg r37.1)))) else (none)) else (none))) else (some ((0 : Int32), S))) := by
  have hfu := fuE
  have kc1 : 0 ≤ (S.1 72 25).toInt ∧ (S.1 72 25).toInt ≤ 14 := hI.1 72 25
  have kc2 : 0 ≤ (S.1 72 22).toInt ∧ (S.1 72 22).toInt ≤ 80 := hI.1 72 22
  have kc3 : 0 ≤ (m.1 72 25).toInt ∧ (m.1 72 25).toInt ≤ 14 := hM.1 72 25
  have kc4 := L0
  have kc5 : (-1 : Int) ≤ (S.1 81 ((m.1 72 25)).toNatClampNeg).toInt ∧ (S.1 81 ((m.1 72 25)).toNatClampNeg).toInt ≤ 9 := hI.1 81 ((m.1 72 25)).toNatClampNeg
  refine s_le (fun kh6 => ?_) (fun kh6 => ?_)
  · have kc7 := L126
    refine s_bd (zX12_takes (126 : Int32) S (show 58 ≤ (126 : Int32).toInt ∧ (126 : Int32).toInt ≤ 126 by omega) hI) (fun r29 kr8 => ?_)
    obtain ⟨kp9, ki10, kf11⟩ := kr8
    replace kp9 : (0 ≤ r29.1.toInt) ∧ (r29.1.toInt ≤ 1) ∧ ((r29.2.1 72 22).toInt = (S.1 72 22).toInt + r29.1.toInt) := kp9
    have kc12 : 0 ≤ (r29.2.1 72 22).toInt ∧ (r29.2.1 72 22).toInt ≤ 80 := ki10.1 72 22
    have kc13 : (-1 : Int) ≤ (r29.2.1 76 ((m.1 72 25)).toNatClampNeg).toInt ∧ (r29.2.1 76 ((m.1 72 25)).toNatClampNeg).toInt ≤ 9 := ki10.1 76 ((m.1 72 25)).toNatClampNeg
    have kc14 : (r29.2.1 76 ((m.1 72 25)).toNatClampNeg).toInt = (S.1 76 ((m.1 72 25)).toNatClampNeg).toInt := congrArg Int32.toInt (kf11 76 ((m.1 72 25)).toNatClampNeg rfl)
    have kc15 : (-1 : Int) ≤ (S.1 76 ((m.1 72 25)).toNatClampNeg).toInt ∧ (S.1 76 ((m.1 72 25)).toNatClampNeg).toInt ≤ 9 := hI.1 76 ((m.1 72 25)).toNatClampNeg
    have kc16 : (-1 : Int) ≤ (r29.2.1 77 ((m.1 72 25)).toNatClampNeg).toInt ∧ (r29.2.1 77 ((m.1 72 25)).toNatClampNeg).toInt ≤ 9 := ki10.1 77 ((m.1 72 25)).toNatClampNeg
    have kc17 : (r29.2.1 77 ((m.1 72 25)).toNatClampNeg).toInt = (S.1 77 ((m.1 72 25)).toNatClampNeg).toInt := congrArg Int32.toInt (kf11 77 ((m.1 72 25)).toNatClampNeg rfl)
    have kc18 : (-1 : Int) ≤ (S.1 77 ((m.1 72 25)).toNatClampNeg).toInt ∧ (S.1 77 ((m.1 72 25)).toNatClampNeg).toInt ≤ 9 := hI.1 77 ((m.1 72 25)).toNatClampNeg
    have kc19 : (-1 : Int) ≤ (r29.2.1 78 ((m.1 72 25)).toNatClampNeg).toInt ∧ (r29.2.1 78 ((m.1 72 25)).toNatClampNeg).toInt ≤ 20 := ki10.1 78 ((m.1 72 25)).toNatClampNeg
    have kc20 : (r29.2.1 78 ((m.1 72 25)).toNatClampNeg).toInt = (S.1 78 ((m.1 72 25)).toNatClampNeg).toInt := congrArg Int32.toInt (kf11 78 ((m.1 72 25)).toNatClampNeg rfl)
    have kc21 : (-1 : Int) ≤ (S.1 78 ((m.1 72 25)).toNatClampNeg).toInt ∧ (S.1 78 ((m.1 72 25)).toNatClampNeg).toInt ≤ 20 := hI.1 78 ((m.1 72 25)).toNatClampNeg
    have kc22 : (-1 : Int) ≤ (r29.2.1 82 ((m.1 72 25)).toNatClampNeg).toInt ∧ (r29.2.1 82 ((m.1 72 25)).toNatClampNeg).toInt ≤ 9 := ki10.1 82 ((m.1 72 25)).toNatClampNeg
    have kc23 : (r29.2.1 82 ((m.1 72 25)).toNatClampNeg).toInt = (S.1 82 ((m.1 72 25)).toNatClampNeg).toInt := congrArg Int32.toInt (kf11 82 ((m.1 72 25)).toNatClampNeg rfl)
    have kc24 : (-1 : Int) ≤ (S.1 82 ((m.1 72 25)).toNatClampNeg).toInt ∧ (S.1 82 ((m.1 72 25)).toNatClampNeg).toInt ≤ 9 := hI.1 82 ((m.1 72 25)).toNatClampNeg
    have kc25 : 0 ≤ (r29.2.1 72 25).toInt ∧ (r29.2.1 72 25).toInt ≤ 14 := ki10.1 72 25
    have kc26 : (r29.2.1 72 25).toInt = (S.1 72 25).toInt := congrArg Int32.toInt (kf11 72 25 rfl)
    refine s_eq (fun kh27 => ?_) (fun kh27 => ?_)
    · have kx28 : 0 ≤ ((m.1 72 25)).toInt ∧ ((m.1 72 25)).toInt < (14 : Int) := by omega
      refine s_ix kx28 ?_
      refine s_ix kx28 ?_
      have kc30 : 0 ≤ (r29.2.1 72 6).toInt ∧ (r29.2.1 72 6).toInt ≤ 14 := ki10.1 72 6
      have kc31 : (r29.2.1 72 6).toInt = (S.1 72 6).toInt := congrArg Int32.toInt (kf11 72 6 rfl)
      have kc32 : 0 ≤ (S.1 72 6).toInt ∧ (S.1 72 6).toInt ≤ 14 := hI.1 72 6
      have ki29 : zI (sm_w1 r29.2 82 ((m.1 72 25)).toNatClampNeg (0 : Int32)) := zI.w82 ki10 (show (-1 : Int) ≤ ((0 : Int32)).toInt ∧ ((0 : Int32)).toInt ≤ 9 by omega) (Or.inr (show (r29.2.1 72 25).toInt ≤ ((m.1 72 25)).toInt by omega)) (show 0 ≤ ((m.1 72 25)).toInt by omega)
      have kf33 : Fr wX12_readsHedge m r29.2 := Fr.trans hF kf11 rfl
      have kf34 : Fr wX12_readsHedge m (sm_w1 r29.2 82 ((m.1 72 25)).toNatClampNeg (0 : Int32)) := Fr.w kf33 rfl
      have kc35 : 0 ≤ ((sm_w1 r29.2 82 ((m.1 72 25)).toNatClampNeg (0 : Int32)).1 72 25).toInt ∧ ((sm_w1 r29.2 82 ((m.1 72 25)).toNatClampNeg (0 : Int32)).1 72 25).toInt ≤ 14 := ki29.1 72 25
      have kc36 : ((sm_w1 r29.2 82 ((m.1 72 25)).toNatClampNeg (0 : Int32)).1 72 25).toInt = (r29.2.1 72 25).toInt := congrArg Int32.toInt (r_cell (by decide))
      have kc37 : 0 ≤ ((sm_w1 r29.2 82 ((m.1 72 25)).toNatClampNeg (0 : Int32)).1 72 22).toInt ∧ ((sm_w1 r29.2 82 ((m.1 72 25)).toNatClampNeg (0 : Int32)).1 72 22).toInt ≤ 80 := ki29.1 72 22
      have kc38 : ((sm_w1 r29.2 82 ((m.1 72 25)).toNatClampNeg (0 : Int32)).1 72 22).toInt = (r29.2.1 72 22).toInt := congrArg Int32.toInt (r_cell (by decide))
      have kc39 : (-1 : Int) ≤ ((sm_w1 r29.2 82 ((m.1 72 25)).toNatClampNeg (0 : Int32)).1 76 ((m.1 72 25)).toNatClampNeg).toInt ∧ ((sm_w1 r29.2 82 ((m.1 72 25)).toNatClampNeg (0 : Int32)).1 76 ((m.1 72 25)).toNatClampNeg).toInt ≤ 9 := ki29.1 76 ((m.1 72 25)).toNatClampNeg
      have kc40 : ((sm_w1 r29.2 82 ((m.1 72 25)).toNatClampNeg (0 : Int32)).1 76 ((m.1 72 25)).toNatClampNeg).toInt = (r29.2.1 76 ((m.1 72 25)).toNatClampNeg).toInt := congrArg Int32.toInt (r_cell (by decide))
      have kc41 : (-1 : Int) ≤ ((sm_w1 r29.2 82 ((m.1 72 25)).toNatClampNeg (0 : Int32)).1 77 ((m.1 72 25)).toNatClampNeg).toInt ∧ ((sm_w1 r29.2 82 ((m.1 72 25)).toNatClampNeg (0 : Int32)).1 77 ((m.1 72 25)).toNatClampNeg).toInt ≤ 9 := ki29.1 77 ((m.1 72 25)).toNatClampNeg
      have kc42 : ((sm_w1 r29.2 82 ((m.1 72 25)).toNatClampNeg (0 : Int32)).1 77 ((m.1 72 25)).toNatClampNeg).toInt = (r29.2.1 77 ((m.1 72 25)).toNatClampNeg).toInt := congrArg Int32.toInt (r_cell (by decide))
      have kc43 : (-1 : Int) ≤ ((sm_w1 r29.2 82 ((m.1 72 25)).toNatClampNeg (0 : Int32)).1 78 ((m.1 72 25)).toNatClampNeg).toInt ∧ ((sm_w1 r29.2 82 ((m.1 72 25)).toNatClampNeg (0 : Int32)).1 78 ((m.1 72 25)).toNatClampNeg).toInt ≤ 20 := ki29.1 78 ((m.1 72 25)).toNatClampNeg
      have kc44 : ((sm_w1 r29.2 82 ((m.1 72 25)).toNatClampNeg (0 : Int32)).1 78 ((m.1 72 25)).toNatClampNeg).toInt = (r29.2.1 78 ((m.1 72 25)).toNatClampNeg).toInt := congrArg Int32.toInt (r_cell (by decide))
      exact zX12_readsHedge_c82 m (sm_w1 r29.2 82 ((m.1 72 25)).toNatClampNeg (0 : Int32)) hM ki29 kf34 (show 0 ≤ (m.1 72 25).toInt ∧ (m.1 72 25).toInt < 14 by omega) (show ((sm_w1 r29.2 82 ((m.1 72 25)).toNatClampNeg (0 : Int32)).1 72 25).toInt = (m.1 72 25).toInt by omega) (show (m.1 72 22).toInt ≤ ((sm_w1 r29.2 82 ((m.1 72 25)).toNatClampNeg (0 : Int32)).1 72 22).toInt by omega) (show 0 ≤ ((sm_w1 r29.2 82 ((m.1 72 25)).toNatClampNeg (0 : Int32)).1 76 ((m.1 72 25)).toNatClampNeg).toInt by omega) (show 0 ≤ ((sm_w1 r29.2 82 ((m.1 72 25)).toNatClampNeg (0 : Int32)).1 77 ((m.1 72 25)).toNatClampNeg).toInt by omega) (show 1 ≤ ((sm_w1 r29.2 82 ((m.1 72 25)).toNatClampNeg (0 : Int32)).1 78 ((m.1 72 25)).toNatClampNeg).toInt by omega)
    · have kc45 := L9
      refine s_bd (zX12_digit_w (9 : Int32) r29.2 (show 5 ≤ (9 : Int32).toInt ∧ (9 : Int32).toInt ≤ 9 by omega) ki10) (fun r37 kr46 => ?_)
      obtain ⟨kp47, ki48, kf49⟩ := kr46
      replace kp47 : ((-1 : Int) ≤ r37.1.toInt) ∧ (r37.1.toInt ≤ 9) ∧ ((r29.2.1 72 22).toInt ≤ (r37.2.1 72 22).toInt) := kp47
      have kc50 : 0 ≤ (r37.2.1 72 22).toInt ∧ (r37.2.1 72 22).toInt ≤ 80 := ki48.1 72 22
      have kc51 : (-1 : Int) ≤ (r37.2.1 76 ((m.1 72 25)).toNatClampNeg).toInt ∧ (r37.2.1 76 ((m.1 72 25)).toNatClampNeg).toInt ≤ 9 := ki48.1 76 ((m.1 72 25)).toNatClampNeg
      have kc52 : (r37.2.1 76 ((m.1 72 25)).toNatClampNeg).toInt = (r29.2.1 76 ((m.1 72 25)).toNatClampNeg).toInt := congrArg Int32.toInt (kf49 76 ((m.1 72 25)).toNatClampNeg rfl)
      have kc53 : (-1 : Int) ≤ (r37.2.1 77 ((m.1 72 25)).toNatClampNeg).toInt ∧ (r37.2.1 77 ((m.1 72 25)).toNatClampNeg).toInt ≤ 9 := ki48.1 77 ((m.1 72 25)).toNatClampNeg
      have kc54 : (r37.2.1 77 ((m.1 72 25)).toNatClampNeg).toInt = (r29.2.1 77 ((m.1 72 25)).toNatClampNeg).toInt := congrArg Int32.toInt (kf49 77 ((m.1 72 25)).toNatClampNeg rfl)
      have kc55 : (-1 : Int) ≤ (r37.2.1 78 ((m.1 72 25)).toNatClampNeg).toInt ∧ (r37.2.1 78 ((m.1 72 25)).toNatClampNeg).toInt ≤ 20 := ki48.1 78 ((m.1 72 25)).toNatClampNeg
      have kc56 : (r37.2.1 78 ((m.1 72 25)).toNatClampNeg).toInt = (r29.2.1 78 ((m.1 72 25)).toNatClampNeg).toInt := congrArg Int32.toInt (kf49 78 ((m.1 72 25)).toNatClampNeg rfl)
      have kc57 : (-1 : Int) ≤ (r37.2.1 82 ((m.1 72 25)).toNatClampNeg).toInt ∧ (r37.2.1 82 ((m.1 72 25)).toNatClampNeg).toInt ≤ 9 := ki48.1 82 ((m.1 72 25)).toNatClampNeg
      have kc58 : (r37.2.1 82 ((m.1 72 25)).toNatClampNeg).toInt = (r29.2.1 82 ((m.1 72 25)).toNatClampNeg).toInt := congrArg Int32.toInt (kf49 82 ((m.1 72 25)).toNatClampNeg rfl)
      have kc59 : 0 ≤ (r37.2.1 72 25).toInt ∧ (r37.2.1 72 25).toInt ≤ 14 := ki48.1 72 25
      have kc60 : (r37.2.1 72 25).toInt = (r29.2.1 72 25).toInt := congrArg Int32.toInt (kf49 72 25 rfl)
      have kx61 : 0 ≤ ((m.1 72 25)).toInt ∧ ((m.1 72 25)).toInt < (14 : Int) := by omega
      refine s_ix kx61 ?_
      refine s_ix kx61 ?_
      have kc63 : 0 ≤ (r37.2.1 72 6).toInt ∧ (r37.2.1 72 6).toInt ≤ 14 := ki48.1 72 6
      have kc64 : (r37.2.1 72 6).toInt = (r29.2.1 72 6).toInt := congrArg Int32.toInt (kf49 72 6 rfl)
      have kc65 : 0 ≤ (r29.2.1 72 6).toInt ∧ (r29.2.1 72 6).toInt ≤ 14 := ki10.1 72 6
      have kc66 : (r29.2.1 72 6).toInt = (S.1 72 6).toInt := congrArg Int32.toInt (kf11 72 6 rfl)
      have kc67 : 0 ≤ (S.1 72 6).toInt ∧ (S.1 72 6).toInt ≤ 14 := hI.1 72 6
      have ki62 : zI (sm_w1 r37.2 82 ((m.1 72 25)).toNatClampNeg r37.1) := zI.w82 ki48 (show (-1 : Int) ≤ (r37.1).toInt ∧ (r37.1).toInt ≤ 9 by omega) (Or.inr (show (r37.2.1 72 25).toInt ≤ ((m.1 72 25)).toInt by omega)) (show 0 ≤ ((m.1 72 25)).toInt by omega)
      have kf68 : Fr wX12_readsHedge m r29.2 := Fr.trans hF kf11 rfl
      have kf69 : Fr wX12_readsHedge m r37.2 := Fr.trans kf68 kf49 rfl
      have kf70 : Fr wX12_readsHedge m (sm_w1 r37.2 82 ((m.1 72 25)).toNatClampNeg r37.1) := Fr.w kf69 rfl
      have kc71 : 0 ≤ ((sm_w1 r37.2 82 ((m.1 72 25)).toNatClampNeg r37.1).1 72 25).toInt ∧ ((sm_w1 r37.2 82 ((m.1 72 25)).toNatClampNeg r37.1).1 72 25).toInt ≤ 14 := ki62.1 72 25
      have kc72 : ((sm_w1 r37.2 82 ((m.1 72 25)).toNatClampNeg r37.1).1 72 25).toInt = (r37.2.1 72 25).toInt := congrArg Int32.toInt (r_cell (by decide))
      have kc73 : 0 ≤ ((sm_w1 r37.2 82 ((m.1 72 25)).toNatClampNeg r37.1).1 72 22).toInt ∧ ((sm_w1 r37.2 82 ((m.1 72 25)).toNatClampNeg r37.1).1 72 22).toInt ≤ 80 := ki62.1 72 22
      have kc74 : ((sm_w1 r37.2 82 ((m.1 72 25)).toNatClampNeg r37.1).1 72 22).toInt = (r37.2.1 72 22).toInt := congrArg Int32.toInt (r_cell (by decide))
      have kc75 : (-1 : Int) ≤ ((sm_w1 r37.2 82 ((m.1 72 25)).toNatClampNeg r37.1).1 76 ((m.1 72 25)).toNatClampNeg).toInt ∧ ((sm_w1 r37.2 82 ((m.1 72 25)).toNatClampNeg r37.1).1 76 ((m.1 72 25)).toNatClampNeg).toInt ≤ 9 := ki62.1 76 ((m.1 72 25)).toNatClampNeg
      have kc76 : ((sm_w1 r37.2 82 ((m.1 72 25)).toNatClampNeg r37.1).1 76 ((m.1 72 25)).toNatClampNeg).toInt = (r37.2.1 76 ((m.1 72 25)).toNatClampNeg).toInt := congrArg Int32.toInt (r_cell (by decide))
      have kc77 : (-1 : Int) ≤ ((sm_w1 r37.2 82 ((m.1 72 25)).toNatClampNeg r37.1).1 77 ((m.1 72 25)).toNatClampNeg).toInt ∧ ((sm_w1 r37.2 82 ((m.1 72 25)).toNatClampNeg r37.1).1 77 ((m.1 72 25)).toNatClampNeg).toInt ≤ 9 := ki62.1 77 ((m.1 72 25)).toNatClampNeg
      have kc78 : ((sm_w1 r37.2 82 ((m.1 72 25)).toNatClampNeg r37.1).1 77 ((m.1 72 25)).toNatClampNeg).toInt = (r37.2.1 77 ((m.1 72 25)).toNatClampNeg).toInt := congrArg Int32.toInt (r_cell (by decide))
      have kc79 : (-1 : Int) ≤ ((sm_w1 r37.2 82 ((m.1 72 25)).toNatClampNeg r37.1).1 78 ((m.1 72 25)).toNatClampNeg).toInt ∧ ((sm_w1 r37.2 82 ((m.1 72 25)).toNatClampNeg r37.1).1 78 ((m.1 72 25)).toNatClampNeg).toInt ≤ 20 := ki62.1 78 ((m.1 72 25)).toNatClampNeg
      have kc80 : ((sm_w1 r37.2 82 ((m.1 72 25)).toNatClampNeg r37.1).1 78 ((m.1 72 25)).toNatClampNeg).toInt = (r37.2.1 78 ((m.1 72 25)).toNatClampNeg).toInt := congrArg Int32.toInt (r_cell (by decide))
      exact zX12_readsHedge_c82 m (sm_w1 r37.2 82 ((m.1 72 25)).toNatClampNeg r37.1) hM ki62 kf70 (show 0 ≤ (m.1 72 25).toInt ∧ (m.1 72 25).toInt < 14 by omega) (show ((sm_w1 r37.2 82 ((m.1 72 25)).toNatClampNeg r37.1).1 72 25).toInt = (m.1 72 25).toInt by omega) (show (m.1 72 22).toInt ≤ ((sm_w1 r37.2 82 ((m.1 72 25)).toNatClampNeg r37.1).1 72 22).toInt by omega) (show 0 ≤ ((sm_w1 r37.2 82 ((m.1 72 25)).toNatClampNeg r37.1).1 76 ((m.1 72 25)).toNatClampNeg).toInt by omega) (show 0 ≤ ((sm_w1 r37.2 82 ((m.1 72 25)).toNatClampNeg r37.1).1 77 ((m.1 72 25)).toNatClampNeg).toInt by omega) (show 1 ≤ ((sm_w1 r37.2 82 ((m.1 72 25)).toNatClampNeg r37.1).1 78 ((m.1 72 25)).toNatClampNeg).toInt by omega)
  · have kc81 : 0 ≤ (m.1 72 22).toInt ∧ (m.1 72 22).toInt ≤ 80 := hM.1 72 22
    exact s_ret ⟨(show (0 ≤ (0 : Int32).toInt) ∧ ((0 : Int32).toInt ≤ 1) ∧ ((m.1 72 22).toInt ≤ (S.1 72 22).toInt) by omega), hI, hF⟩
theorem zX12_readsHedge_c80 (m S : sm_S) (hM : zI m) (hI : zI S) (hF : Fr wX12_readsHedge m S) (hk : 0 ≤ (m.1 72 25).toInt ∧ (m.1 72 25).toInt < 14) (hc0 : (S.1 72 25).toInt = (m.1 72 25).toInt) (hc1 : (m.1 72 22).toInt ≤ (S.1 72 22).toInt) (hc2 : 0 ≤ (S.1 76 ((m.1 72 25)).toNatClampNeg).toInt) (hc3 : 0 ≤ (S.1 77 ((m.1 72 25)).toNatClampNeg).toInt) (hc4 : 1 ≤ (S.1 78 ((m.1 72 25)).toNatClampNeg).toInt) : Sf (fun r => ((0 ≤ r.1.toInt) ∧ (r.1.toInt ≤ 1) ∧ ((m.1 72 22).toInt ≤ (r.2.1 72 22).toInt)) ∧ zI r.2 ∧ Fr wX12_readsHedge m r.2) (if (0 : Int32) ≤ (S.1 80 ((m.1 72 25)).toNatClampNeg) then ((fX12_takes (119 : Int32) S).bind fun r25 => if r25.1 = (0 : Int32) then (if sm_ix (m.1 72 25) 14 then (if sm_ix (m.1 72 25) 14 then (if (0 : Int32) ≤ ((sm_w1 r25.2 81 ((m.1 72 25)).toNatClampNeg (1 : Int32)).1 81 ((m.1 72 25)).toNatClampNeg) then ((fX12_takes (126 : Int32) (sm_w1 r25.2 81 ((m.1 72 25)).toNatClampNeg (1 : Int32))).bind fun r29 => if r29.1 = (0 : Int32) then (if sm_ix (m.1 72 25) 14 then (if sm_ix (m.1 72 25) 14 then (if (0 : Int32) ≤ ((sm_w1 r29.2 82 ((m.1 72 25)).toNatClampNeg (0 : Int32)).1 82 ((m.1 72 25)).toNatClampNeg) then ((fX12_takes (103 : Int32) (sm_w1 r29.2 82 ((m.1 72 25)).toNatClampNeg (0 : Int32))).bind fun r33 => if r33.1 = (0 : Int32) then (if sm_ix (m.1 72 25) 14 then (some ((1 : Int32), (sm_w1 (sm_w1 (sm_w1 r33.2 72 26 ((r29.2.1 72 26) ||| (0 : Int32))) 83 ((m.1 72 25)).toNatClampNeg (-1 : Int32)) 72 25 ((r33.2.1 72 25) + (1 : Int32))))) else (none)) else (if sm_ix (m.1 72 25) 14 then (some ((1 : Int32), (sm_w1 (sm_w1 (sm_w1 r33.2 72 26 ((r29.2.1 72 26) ||| ((1 : Int32) <<< ((m.1 72 25) &&& (31 : Int32))))) 83 ((m.1 72 25)).toNatClampNeg (-1 : Int32)) 72 25 ((r33.2.1 72 25) + (1 : Int32))))) else (none))) else (some ((0 : Int32), (sm_w1 r29.2 82 ((m.1 72 25)).toNatClampNeg (0 : Int32))))) else (none)) else (none)) else ((fX12_digit (9 : Int32) r29.2).bind fun r37 => if sm_ix (m.1 72 25) 14 then (if sm_ix (m.1 72 25) 14 then (if (0 : Int32) ≤ ((sm_w1 r37.2 82 ((m.1 72 25)).toNatClampNeg r37.1).1 82 ((m.1 72 25)).toNatClampNeg) then ((fX12_takes (103 : Int32) (sm_w1 r37.2 82 ((m.1 72 25)).toNatClampNeg r37.1)).bind fun r41 => if r41.1 = (0 : Int32) then (if sm_ix (m.1 72 25) 14 then (some ((1 : Int32), (sm_w1 (sm_w1 (sm_w1 r41.2 72 26 ((r37.2.1 72 26) ||| (0 : Int32))) 83 ((m.1 72 25)).toNatClampNeg (-1 : Int32)) 72 25 ((r41.2.1 72 25) + (1 : Int32))))) else (none)) else (if sm_ix (m.1 72 25) 14 then (some ((1 : Int32), (sm_w1 (sm_w1 (sm_w1 r41.2 72 26 ((r37.2.1 72 26) ||| ((1 : Int32) <<< ((m.1 72 25) &&& (31 : Int32))))) 83 ((m.1 72 25)).toNatClampNeg (-1 : Int32)) 72 25 ((r41.2.1 72 25) + (1 : Int32))))) else (none))) else (some ((0 : Int32), (sm_w1 r37.2 82 ((m.1 72 25)).toNatClampNeg r37.1)))) else (none)) else (none))) else (some ((0 : Int32), (sm_w1 r25.2 81 ((m.1 72 25)).toNatClampNeg (1 : Int32))))) else (none)) else (none)) else ((fX12_digit (9 : Int32) r25.2).bind fun r45 => if sm_ix (m.1 72 25) 14 then (if sm_ix (m.1 72 25) 14 then (if (0 : Int32) ≤ ((sm_w1 r45.2 81 ((m.1 72 25)).toNatClampNeg r45.1).1 81 ((m.1 72 25)).toNatClampNeg) then ((fX12_takes (126 : Int32) (sm_w1 r45.2 81 ((m.1 72 25)).toNatClampNeg r45.1)).bind fun r49 => if r49.1 = (0 : Int32) then (if sm_ix (m.1 72 25) 14 then (if sm_ix (m.1 72 25) 14 then (if (0 : Int32) ≤ ((sm_w1 r49.2 82 ((m.1 72 25)).toNatClampNeg (0 : Int32)).1 82 ((m.1 72 25)).toNatClampNeg) then ((fX12_takes (103 : Int32) (sm_w1 r49.2 82 ((m.1 72 25)).toNatClampNeg (0 : Int32))).bind fun r53 => if r53.1 = (0 : Int32) then (if sm_ix (m.1 72 25) 14 then (some ((1 : Int32), (sm_w1 (sm_w1 (sm_w1 r53.2 72 26 ((r49.2.1 72 26) ||| (0 : Int32))) 83 ((m.1 72 25)).toNatClampNeg (-1 : Int32)) 72 25 ((r53.2.1 72 25) + (1 : Int32))))) else (none)) else (if sm_ix (m.1 72 25) 14 then (some ((1 : Int32), (sm_w1 (sm_w1 (sm_w1 r53.2 72 26 ((r49.2.1 72 26) ||| ((1 : Int32) <<< ((m.1 72 25) &&& (31 : Int32))))) 83 ((m.1 72 25)).toNatClampNeg (-1 : Int32)) 72 25 ((r53.2.1 72 25) + (1 : Int32))))) else (none))) else (some ((0 : Int32), (sm_w1 r49.2 82 ((m.1 72 25)).toNatClampNeg (0 : Int32))))) else (none)) else (none)) else ((fX12_digit (9 : Int32) r49.2).bind fun r57 => if sm_ix (m.1 72 25) 14 then (if sm_ix (m.1 72 25) 14 then (if (0 : Int32) ≤ ((sm_w1 r57.2 82 ((m.1 72 25)).toNatClampNeg r57.1).1 82 ((m.1 72 25)).toNatClampNeg) then ((fX12_takes (103 : Int32) (sm_w1 r57.2 82 ((m.1 72 25)).toNatClampNeg r57.1)).bind fun r61 => if r61.1 = (0 : Int32) then (if sm_ix (m.1 72 25) 14 then (some ((1 : Int32), (sm_w1 (sm_w1 (sm_w1 r61.2 72 26 ((r57.2.1 72 26) ||| (0 : Int32))) 83 ((m.1 72 25)).toNatClampNeg (-1 : Int32)) 72 25 ((r61.2.1 72 25) + (1 : Int32))))) else (none)) else (if sm_ix (m.1 72 25) 14 then (some ((1 : Int32), (sm_w1 (sm_w1 (sm_w1 r61.2 72 26 ((r57.2.1 72 26) ||| ((1 : Int32) <<< ((m.1 72 25) &&& (31 : Int32))))) 83 ((m.1 72 25)).toNatClampNeg (-1 : Int32)) 72 25 ((r61.2.1 72 25) + (1 : Int32))))) else (none))) else (some ((0 : Int32), (sm_w1 r57.2 82 ((m.1 72 25)).toNatClampNeg r57.1)))) else (none)) else (none))) else (some ((0 : Int32), (sm_w1 r45.2 81 ((m.1 72 25)).toNatClampNeg r45.1)))) else (none)) else (none))) else (some ((0 : Int32), S))) := by
  have hfu := fuE
  have kc1 : 0 ≤ (S.1 72 25).toInt ∧ (S.1 72 25).toInt ≤ 14 := hI.1 72 25
  have kc2 : 0 ≤ (S.1 72 22).toInt ∧ (S.1 72 22).toInt ≤ 80 := hI.1 72 22
  have kc3 : 0 ≤ (m.1 72 25).toInt ∧ (m.1 72 25).toInt ≤ 14 := hM.1 72 25
  have kc4 := L0
  have kc5 : (-1 : Int) ≤ (S.1 80 ((m.1 72 25)).toNatClampNeg).toInt ∧ (S.1 80 ((m.1 72 25)).toNatClampNeg).toInt ≤ 9 := hI.1 80 ((m.1 72 25)).toNatClampNeg
  refine s_le (fun kh6 => ?_) (fun kh6 => ?_)
  · have kc7 := L119
    refine s_bd (zX12_takes (119 : Int32) S (show 58 ≤ (119 : Int32).toInt ∧ (119 : Int32).toInt ≤ 126 by omega) hI) (fun r25 kr8 => ?_)
    obtain ⟨kp9, ki10, kf11⟩ := kr8
    replace kp9 : (0 ≤ r25.1.toInt) ∧ (r25.1.toInt ≤ 1) ∧ ((r25.2.1 72 22).toInt = (S.1 72 22).toInt + r25.1.toInt) := kp9
    have kc12 : 0 ≤ (r25.2.1 72 22).toInt ∧ (r25.2.1 72 22).toInt ≤ 80 := ki10.1 72 22
    have kc13 : (-1 : Int) ≤ (r25.2.1 76 ((m.1 72 25)).toNatClampNeg).toInt ∧ (r25.2.1 76 ((m.1 72 25)).toNatClampNeg).toInt ≤ 9 := ki10.1 76 ((m.1 72 25)).toNatClampNeg
    have kc14 : (r25.2.1 76 ((m.1 72 25)).toNatClampNeg).toInt = (S.1 76 ((m.1 72 25)).toNatClampNeg).toInt := congrArg Int32.toInt (kf11 76 ((m.1 72 25)).toNatClampNeg rfl)
    have kc15 : (-1 : Int) ≤ (S.1 76 ((m.1 72 25)).toNatClampNeg).toInt ∧ (S.1 76 ((m.1 72 25)).toNatClampNeg).toInt ≤ 9 := hI.1 76 ((m.1 72 25)).toNatClampNeg
    have kc16 : (-1 : Int) ≤ (r25.2.1 77 ((m.1 72 25)).toNatClampNeg).toInt ∧ (r25.2.1 77 ((m.1 72 25)).toNatClampNeg).toInt ≤ 9 := ki10.1 77 ((m.1 72 25)).toNatClampNeg
    have kc17 : (r25.2.1 77 ((m.1 72 25)).toNatClampNeg).toInt = (S.1 77 ((m.1 72 25)).toNatClampNeg).toInt := congrArg Int32.toInt (kf11 77 ((m.1 72 25)).toNatClampNeg rfl)
    have kc18 : (-1 : Int) ≤ (S.1 77 ((m.1 72 25)).toNatClampNeg).toInt ∧ (S.1 77 ((m.1 72 25)).toNatClampNeg).toInt ≤ 9 := hI.1 77 ((m.1 72 25)).toNatClampNeg
    have kc19 : (-1 : Int) ≤ (r25.2.1 78 ((m.1 72 25)).toNatClampNeg).toInt ∧ (r25.2.1 78 ((m.1 72 25)).toNatClampNeg).toInt ≤ 20 := ki10.1 78 ((m.1 72 25)).toNatClampNeg
    have kc20 : (r25.2.1 78 ((m.1 72 25)).toNatClampNeg).toInt = (S.1 78 ((m.1 72 25)).toNatClampNeg).toInt := congrArg Int32.toInt (kf11 78 ((m.1 72 25)).toNatClampNeg rfl)
    have kc21 : (-1 : Int) ≤ (S.1 78 ((m.1 72 25)).toNatClampNeg).toInt ∧ (S.1 78 ((m.1 72 25)).toNatClampNeg).toInt ≤ 20 := hI.1 78 ((m.1 72 25)).toNatClampNeg
    have kc22 : (-1 : Int) ≤ (r25.2.1 82 ((m.1 72 25)).toNatClampNeg).toInt ∧ (r25.2.1 82 ((m.1 72 25)).toNatClampNeg).toInt ≤ 9 := ki10.1 82 ((m.1 72 25)).toNatClampNeg
    have kc23 : (r25.2.1 82 ((m.1 72 25)).toNatClampNeg).toInt = (S.1 82 ((m.1 72 25)).toNatClampNeg).toInt := congrArg Int32.toInt (kf11 82 ((m.1 72 25)).toNatClampNeg rfl)
    have kc24 : (-1 : Int) ≤ (S.1 82 ((m.1 72 25)).toNatClampNeg).toInt ∧ (S.1 82 ((m.1 72 25)).toNatClampNeg).toInt ≤ 9 := hI.1 82 ((m.1 72 25)).toNatClampNeg
    have kc25 : 0 ≤ (r25.2.1 72 25).toInt ∧ (r25.2.1 72 25).toInt ≤ 14 := ki10.1 72 25
    have kc26 : (r25.2.1 72 25).toInt = (S.1 72 25).toInt := congrArg Int32.toInt (kf11 72 25 rfl)
    refine s_eq (fun kh27 => ?_) (fun kh27 => ?_)
    · have kx28 : 0 ≤ ((m.1 72 25)).toInt ∧ ((m.1 72 25)).toInt < (14 : Int) := by omega
      refine s_ix kx28 ?_
      refine s_ix kx28 ?_
      have kc29 := L1
      have ki30 : zI (sm_w1 r25.2 81 ((m.1 72 25)).toNatClampNeg (1 : Int32)) := zI.w ki10 rfl (show (-1 : Int) ≤ ((1 : Int32)).toInt ∧ ((1 : Int32)).toInt ≤ 9 by omega)
      have kf31 : Fr wX12_readsHedge m r25.2 := Fr.trans hF kf11 rfl
      have kf32 : Fr wX12_readsHedge m (sm_w1 r25.2 81 ((m.1 72 25)).toNatClampNeg (1 : Int32)) := Fr.w kf31 rfl
      have kc33 : 0 ≤ ((sm_w1 r25.2 81 ((m.1 72 25)).toNatClampNeg (1 : Int32)).1 72 25).toInt ∧ ((sm_w1 r25.2 81 ((m.1 72 25)).toNatClampNeg (1 : Int32)).1 72 25).toInt ≤ 14 := ki30.1 72 25
      have kc34 : ((sm_w1 r25.2 81 ((m.1 72 25)).toNatClampNeg (1 : Int32)).1 72 25).toInt = (r25.2.1 72 25).toInt := congrArg Int32.toInt (r_cell (by decide))
      have kc35 : 0 ≤ ((sm_w1 r25.2 81 ((m.1 72 25)).toNatClampNeg (1 : Int32)).1 72 22).toInt ∧ ((sm_w1 r25.2 81 ((m.1 72 25)).toNatClampNeg (1 : Int32)).1 72 22).toInt ≤ 80 := ki30.1 72 22
      have kc36 : ((sm_w1 r25.2 81 ((m.1 72 25)).toNatClampNeg (1 : Int32)).1 72 22).toInt = (r25.2.1 72 22).toInt := congrArg Int32.toInt (r_cell (by decide))
      have kc37 : (-1 : Int) ≤ ((sm_w1 r25.2 81 ((m.1 72 25)).toNatClampNeg (1 : Int32)).1 76 ((m.1 72 25)).toNatClampNeg).toInt ∧ ((sm_w1 r25.2 81 ((m.1 72 25)).toNatClampNeg (1 : Int32)).1 76 ((m.1 72 25)).toNatClampNeg).toInt ≤ 9 := ki30.1 76 ((m.1 72 25)).toNatClampNeg
      have kc38 : ((sm_w1 r25.2 81 ((m.1 72 25)).toNatClampNeg (1 : Int32)).1 76 ((m.1 72 25)).toNatClampNeg).toInt = (r25.2.1 76 ((m.1 72 25)).toNatClampNeg).toInt := congrArg Int32.toInt (r_cell (by decide))
      have kc39 : (-1 : Int) ≤ ((sm_w1 r25.2 81 ((m.1 72 25)).toNatClampNeg (1 : Int32)).1 77 ((m.1 72 25)).toNatClampNeg).toInt ∧ ((sm_w1 r25.2 81 ((m.1 72 25)).toNatClampNeg (1 : Int32)).1 77 ((m.1 72 25)).toNatClampNeg).toInt ≤ 9 := ki30.1 77 ((m.1 72 25)).toNatClampNeg
      have kc40 : ((sm_w1 r25.2 81 ((m.1 72 25)).toNatClampNeg (1 : Int32)).1 77 ((m.1 72 25)).toNatClampNeg).toInt = (r25.2.1 77 ((m.1 72 25)).toNatClampNeg).toInt := congrArg Int32.toInt (r_cell (by decide))
      have kc41 : (-1 : Int) ≤ ((sm_w1 r25.2 81 ((m.1 72 25)).toNatClampNeg (1 : Int32)).1 78 ((m.1 72 25)).toNatClampNeg).toInt ∧ ((sm_w1 r25.2 81 ((m.1 72 25)).toNatClampNeg (1 : Int32)).1 78 ((m.1 72 25)).toNatClampNeg).toInt ≤ 20 := ki30.1 78 ((m.1 72 25)).toNatClampNeg
      have kc42 : ((sm_w1 r25.2 81 ((m.1 72 25)).toNatClampNeg (1 : Int32)).1 78 ((m.1 72 25)).toNatClampNeg).toInt = (r25.2.1 78 ((m.1 72 25)).toNatClampNeg).toInt := congrArg Int32.toInt (r_cell (by decide))
      exact zX12_readsHedge_c81 m (sm_w1 r25.2 81 ((m.1 72 25)).toNatClampNeg (1 : Int32)) hM ki30 kf32 (show 0 ≤ (m.1 72 25).toInt ∧ (m.1 72 25).toInt < 14 by omega) (show ((sm_w1 r25.2 81 ((m.1 72 25)).toNatClampNeg (1 : Int32)).1 72 25).toInt = (m.1 72 25).toInt by omega) (show (m.1 72 22).toInt ≤ ((sm_w1 r25.2 81 ((m.1 72 25)).toNatClampNeg (1 : Int32)).1 72 22).toInt by omega) (show 0 ≤ ((sm_w1 r25.2 81 ((m.1 72 25)).toNatClampNeg (1 : Int32)).1 76 ((m.1 72 25)).toNatClampNeg).toInt by omega) (show 0 ≤ ((sm_w1 r25.2 81 ((m.1 72 25)).toNatClampNeg (1 : Int32)).1 77 ((m.1 72 25)).toNatClampNeg).toInt by omega) (show 1 ≤ ((sm_w1 r25.2 81 ((m.1 72 25)).toNatClampNeg (1 : Int32)).1 78 ((m.1 72 25)).toNatClampNeg).toInt by omega)
    · have kc43 := L9
      refine s_bd (zX12_digit_w (9 : Int32) r25.2 (show 5 ≤ (9 : Int32).toInt ∧ (9 : Int32).toInt ≤ 9 by omega) ki10) (fun r45 kr44 => ?_)
      obtain ⟨kp45, ki46, kf47⟩ := kr44
      replace kp45 : ((-1 : Int) ≤ r45.1.toInt) ∧ (r45.1.toInt ≤ 9) ∧ ((r25.2.1 72 22).toInt ≤ (r45.2.1 72 22).toInt) := kp45
      have kc48 : 0 ≤ (r45.2.1 72 22).toInt ∧ (r45.2.1 72 22).toInt ≤ 80 := ki46.1 72 22
      have kc49 : (-1 : Int) ≤ (r45.2.1 76 ((m.1 72 25)).toNatClampNeg).toInt ∧ (r45.2.1 76 ((m.1 72 25)).toNatClampNeg).toInt ≤ 9 := ki46.1 76 ((m.1 72 25)).toNatClampNeg
      have kc50 : (r45.2.1 76 ((m.1 72 25)).toNatClampNeg).toInt = (r25.2.1 76 ((m.1 72 25)).toNatClampNeg).toInt := congrArg Int32.toInt (kf47 76 ((m.1 72 25)).toNatClampNeg rfl)
      have kc51 : (-1 : Int) ≤ (r45.2.1 77 ((m.1 72 25)).toNatClampNeg).toInt ∧ (r45.2.1 77 ((m.1 72 25)).toNatClampNeg).toInt ≤ 9 := ki46.1 77 ((m.1 72 25)).toNatClampNeg
      have kc52 : (r45.2.1 77 ((m.1 72 25)).toNatClampNeg).toInt = (r25.2.1 77 ((m.1 72 25)).toNatClampNeg).toInt := congrArg Int32.toInt (kf47 77 ((m.1 72 25)).toNatClampNeg rfl)
      have kc53 : (-1 : Int) ≤ (r45.2.1 78 ((m.1 72 25)).toNatClampNeg).toInt ∧ (r45.2.1 78 ((m.1 72 25)).toNatClampNeg).toInt ≤ 20 := ki46.1 78 ((m.1 72 25)).toNatClampNeg
      have kc54 : (r45.2.1 78 ((m.1 72 25)).toNatClampNeg).toInt = (r25.2.1 78 ((m.1 72 25)).toNatClampNeg).toInt := congrArg Int32.toInt (kf47 78 ((m.1 72 25)).toNatClampNeg rfl)
      have kc55 : (-1 : Int) ≤ (r45.2.1 82 ((m.1 72 25)).toNatClampNeg).toInt ∧ (r45.2.1 82 ((m.1 72 25)).toNatClampNeg).toInt ≤ 9 := ki46.1 82 ((m.1 72 25)).toNatClampNeg
      have kc56 : (r45.2.1 82 ((m.1 72 25)).toNatClampNeg).toInt = (r25.2.1 82 ((m.1 72 25)).toNatClampNeg).toInt := congrArg Int32.toInt (kf47 82 ((m.1 72 25)).toNatClampNeg rfl)
      have kc57 : 0 ≤ (r45.2.1 72 25).toInt ∧ (r45.2.1 72 25).toInt ≤ 14 := ki46.1 72 25
      have kc58 : (r45.2.1 72 25).toInt = (r25.2.1 72 25).toInt := congrArg Int32.toInt (kf47 72 25 rfl)
      have kx59 : 0 ≤ ((m.1 72 25)).toInt ∧ ((m.1 72 25)).toInt < (14 : Int) := by omega
      refine s_ix kx59 ?_
      refine s_ix kx59 ?_
      have ki60 : zI (sm_w1 r45.2 81 ((m.1 72 25)).toNatClampNeg r45.1) := zI.w ki46 rfl (show (-1 : Int) ≤ (r45.1).toInt ∧ (r45.1).toInt ≤ 9 by omega)
      have kf61 : Fr wX12_readsHedge m r25.2 := Fr.trans hF kf11 rfl
      have kf62 : Fr wX12_readsHedge m r45.2 := Fr.trans kf61 kf47 rfl
      have kf63 : Fr wX12_readsHedge m (sm_w1 r45.2 81 ((m.1 72 25)).toNatClampNeg r45.1) := Fr.w kf62 rfl
      have kc64 : 0 ≤ ((sm_w1 r45.2 81 ((m.1 72 25)).toNatClampNeg r45.1).1 72 25).toInt ∧ ((sm_w1 r45.2 81 ((m.1 72 25)).toNatClampNeg r45.1).1 72 25).toInt ≤ 14 := ki60.1 72 25
      have kc65 : ((sm_w1 r45.2 81 ((m.1 72 25)).toNatClampNeg r45.1).1 72 25).toInt = (r45.2.1 72 25).toInt := congrArg Int32.toInt (r_cell (by decide))
      have kc66 : 0 ≤ ((sm_w1 r45.2 81 ((m.1 72 25)).toNatClampNeg r45.1).1 72 22).toInt ∧ ((sm_w1 r45.2 81 ((m.1 72 25)).toNatClampNeg r45.1).1 72 22).toInt ≤ 80 := ki60.1 72 22
      have kc67 : ((sm_w1 r45.2 81 ((m.1 72 25)).toNatClampNeg r45.1).1 72 22).toInt = (r45.2.1 72 22).toInt := congrArg Int32.toInt (r_cell (by decide))
      have kc68 : (-1 : Int) ≤ ((sm_w1 r45.2 81 ((m.1 72 25)).toNatClampNeg r45.1).1 76 ((m.1 72 25)).toNatClampNeg).toInt ∧ ((sm_w1 r45.2 81 ((m.1 72 25)).toNatClampNeg r45.1).1 76 ((m.1 72 25)).toNatClampNeg).toInt ≤ 9 := ki60.1 76 ((m.1 72 25)).toNatClampNeg
      have kc69 : ((sm_w1 r45.2 81 ((m.1 72 25)).toNatClampNeg r45.1).1 76 ((m.1 72 25)).toNatClampNeg).toInt = (r45.2.1 76 ((m.1 72 25)).toNatClampNeg).toInt := congrArg Int32.toInt (r_cell (by decide))
      have kc70 : (-1 : Int) ≤ ((sm_w1 r45.2 81 ((m.1 72 25)).toNatClampNeg r45.1).1 77 ((m.1 72 25)).toNatClampNeg).toInt ∧ ((sm_w1 r45.2 81 ((m.1 72 25)).toNatClampNeg r45.1).1 77 ((m.1 72 25)).toNatClampNeg).toInt ≤ 9 := ki60.1 77 ((m.1 72 25)).toNatClampNeg
      have kc71 : ((sm_w1 r45.2 81 ((m.1 72 25)).toNatClampNeg r45.1).1 77 ((m.1 72 25)).toNatClampNeg).toInt = (r45.2.1 77 ((m.1 72 25)).toNatClampNeg).toInt := congrArg Int32.toInt (r_cell (by decide))
      have kc72 : (-1 : Int) ≤ ((sm_w1 r45.2 81 ((m.1 72 25)).toNatClampNeg r45.1).1 78 ((m.1 72 25)).toNatClampNeg).toInt ∧ ((sm_w1 r45.2 81 ((m.1 72 25)).toNatClampNeg r45.1).1 78 ((m.1 72 25)).toNatClampNeg).toInt ≤ 20 := ki60.1 78 ((m.1 72 25)).toNatClampNeg
      have kc73 : ((sm_w1 r45.2 81 ((m.1 72 25)).toNatClampNeg r45.1).1 78 ((m.1 72 25)).toNatClampNeg).toInt = (r45.2.1 78 ((m.1 72 25)).toNatClampNeg).toInt := congrArg Int32.toInt (r_cell (by decide))
      exact zX12_readsHedge_c81 m (sm_w1 r45.2 81 ((m.1 72 25)).toNatClampNeg r45.1) hM ki60 kf63 (show 0 ≤ (m.1 72 25).toInt ∧ (m.1 72 25).toInt < 14 by omega) (show ((sm_w1 r45.2 81 ((m.1 72 25)).toNatClampNeg r45.1).1 72 25).toInt = (m.1 72 25).toInt by omega) (show (m.1 72 22).toInt ≤ ((sm_w1 r45.2 81 ((m.1 72 25)).toNatClampNeg r45.1).1 72 22).toInt by omega) (show 0 ≤ ((sm_w1 r45.2 81 ((m.1 72 25)).toNatClampNeg r45.1).1 76 ((m.1 72 25)).toNatClampNeg).toInt by omega) (show 0 ≤ ((sm_w1 r45.2 81 ((m.1 72 25)).toNatClampNeg r45.1).1 77 ((m.1 72 25)).toNatClampNeg).toInt by omega) (show 1 ≤ ((sm_w1 r45.2 81 ((m.1 72 25)).toNatClampNeg r45.1).1 78 ((m.1 72 25)).toNatClampNeg).toInt by omega)
  · have kc74 : 0 ≤ (m.1 72 22).toInt ∧ (m.1 72 22).toInt ≤ 80 := hM.1 72 22
    exact s_ret ⟨(show (0 ≤ (0 : Int32).toInt) ∧ ((0 : Int32).toInt ≤ 1) ∧ ((m.1 72 22).toInt ≤ (S.1 72 22).toInt) by omega), hI, hF⟩
theorem zX12_readsHedge_c79 (m S : sm_S) (hM : zI m) (hI : zI S) (hF : Fr wX12_readsHedge m S) (hk : 0 ≤ (m.1 72 25).toInt ∧ (m.1 72 25).toInt < 14) (hc0 : (S.1 72 25).toInt = (m.1 72 25).toInt) (hc1 : (m.1 72 22).toInt ≤ (S.1 72 22).toInt) (hc2 : 0 ≤ (S.1 76 ((m.1 72 25)).toNatClampNeg).toInt) (hc3 : 0 ≤ (S.1 77 ((m.1 72 25)).toNatClampNeg).toInt) (hc4 : 1 ≤ (S.1 78 ((m.1 72 25)).toNatClampNeg).toInt) : Sf (fun r => ((0 ≤ r.1.toInt) ∧ (r.1.toInt ≤ 1) ∧ ((m.1 72 22).toInt ≤ (r.2.1 72 22).toInt)) ∧ zI r.2 ∧ Fr wX12_readsHedge m r.2) (if (0 : Int32) ≤ (S.1 79 ((m.1 72 25)).toNatClampNeg) then ((fX12_digit (5 : Int32) S).bind fun r21 => if sm_ix (m.1 72 25) 14 then (if sm_ix (m.1 72 25) 14 then (if (0 : Int32) ≤ ((sm_w1 r21.2 80 ((m.1 72 25)).toNatClampNeg r21.1).1 80 ((m.1 72 25)).toNatClampNeg) then ((fX12_takes (119 : Int32) (sm_w1 r21.2 80 ((m.1 72 25)).toNatClampNeg r21.1)).bind fun r25 => if r25.1 = (0 : Int32) then (if sm_ix (m.1 72 25) 14 then (if sm_ix (m.1 72 25) 14 then (if (0 : Int32) ≤ ((sm_w1 r25.2 81 ((m.1 72 25)).toNatClampNeg (1 : Int32)).1 81 ((m.1 72 25)).toNatClampNeg) then ((fX12_takes (126 : Int32) (sm_w1 r25.2 81 ((m.1 72 25)).toNatClampNeg (1 : Int32))).bind fun r29 => if r29.1 = (0 : Int32) then (if sm_ix (m.1 72 25) 14 then (if sm_ix (m.1 72 25) 14 then (if (0 : Int32) ≤ ((sm_w1 r29.2 82 ((m.1 72 25)).toNatClampNeg (0 : Int32)).1 82 ((m.1 72 25)).toNatClampNeg) then ((fX12_takes (103 : Int32) (sm_w1 r29.2 82 ((m.1 72 25)).toNatClampNeg (0 : Int32))).bind fun r33 => if r33.1 = (0 : Int32) then (if sm_ix (m.1 72 25) 14 then (some ((1 : Int32), (sm_w1 (sm_w1 (sm_w1 r33.2 72 26 ((r29.2.1 72 26) ||| (0 : Int32))) 83 ((m.1 72 25)).toNatClampNeg (-1 : Int32)) 72 25 ((r33.2.1 72 25) + (1 : Int32))))) else (none)) else (if sm_ix (m.1 72 25) 14 then (some ((1 : Int32), (sm_w1 (sm_w1 (sm_w1 r33.2 72 26 ((r29.2.1 72 26) ||| ((1 : Int32) <<< ((m.1 72 25) &&& (31 : Int32))))) 83 ((m.1 72 25)).toNatClampNeg (-1 : Int32)) 72 25 ((r33.2.1 72 25) + (1 : Int32))))) else (none))) else (some ((0 : Int32), (sm_w1 r29.2 82 ((m.1 72 25)).toNatClampNeg (0 : Int32))))) else (none)) else (none)) else ((fX12_digit (9 : Int32) r29.2).bind fun r37 => if sm_ix (m.1 72 25) 14 then (if sm_ix (m.1 72 25) 14 then (if (0 : Int32) ≤ ((sm_w1 r37.2 82 ((m.1 72 25)).toNatClampNeg r37.1).1 82 ((m.1 72 25)).toNatClampNeg) then ((fX12_takes (103 : Int32) (sm_w1 r37.2 82 ((m.1 72 25)).toNatClampNeg r37.1)).bind fun r41 => if r41.1 = (0 : Int32) then (if sm_ix (m.1 72 25) 14 then (some ((1 : Int32), (sm_w1 (sm_w1 (sm_w1 r41.2 72 26 ((r37.2.1 72 26) ||| (0 : Int32))) 83 ((m.1 72 25)).toNatClampNeg (-1 : Int32)) 72 25 ((r41.2.1 72 25) + (1 : Int32))))) else (none)) else (if sm_ix (m.1 72 25) 14 then (some ((1 : Int32), (sm_w1 (sm_w1 (sm_w1 r41.2 72 26 ((r37.2.1 72 26) ||| ((1 : Int32) <<< ((m.1 72 25) &&& (31 : Int32))))) 83 ((m.1 72 25)).toNatClampNeg (-1 : Int32)) 72 25 ((r41.2.1 72 25) + (1 : Int32))))) else (none))) else (some ((0 : Int32), (sm_w1 r37.2 82 ((m.1 72 25)).toNatClampNeg r37.1)))) else (none)) else (none))) else (some ((0 : Int32), (sm_w1 r25.2 81 ((m.1 72 25)).toNatClampNeg (1 : Int32))))) else (none)) else (none)) else ((fX12_digit (9 : Int32) r25.2).bind fun r45 => if sm_ix (m.1 72 25) 14 then (if sm_ix (m.1 72 25) 14 then (if (0 : Int32) ≤ ((sm_w1 r45.2 81 ((m.1 72 25)).toNatClampNeg r45.1).1 81 ((m.1 72 25)).toNatClampNeg) then ((fX12_takes (126 : Int32) (sm_w1 r45.2 81 ((m.1 72 25)).toNatClampNeg r45.1)).bind fun r49 => if r49.1 = (0 : Int32) then (if sm_ix (m.1 72 25) 14 then (if sm_ix (m.1 72 25) 14 then (if (0 : Int32) ≤ ((sm_w1 r49.2 82 ((m.1 72 25)).toNatClampNeg (0 : Int32)).1 82 ((m.1 72 25)).toNatClampNeg) then ((fX12_takes (103 : Int32) (sm_w1 r49.2 82 ((m.1 72 25)).toNatClampNeg (0 : Int32))).bind fun r53 => if r53.1 = (0 : Int32) then (if sm_ix (m.1 72 25) 14 then (some ((1 : Int32), (sm_w1 (sm_w1 (sm_w1 r53.2 72 26 ((r49.2.1 72 26) ||| (0 : Int32))) 83 ((m.1 72 25)).toNatClampNeg (-1 : Int32)) 72 25 ((r53.2.1 72 25) + (1 : Int32))))) else (none)) else (if sm_ix (m.1 72 25) 14 then (some ((1 : Int32), (sm_w1 (sm_w1 (sm_w1 r53.2 72 26 ((r49.2.1 72 26) ||| ((1 : Int32) <<< ((m.1 72 25) &&& (31 : Int32))))) 83 ((m.1 72 25)).toNatClampNeg (-1 : Int32)) 72 25 ((r53.2.1 72 25) + (1 : Int32))))) else (none))) else (some ((0 : Int32), (sm_w1 r49.2 82 ((m.1 72 25)).toNatClampNeg (0 : Int32))))) else (none)) else (none)) else ((fX12_digit (9 : Int32) r49.2).bind fun r57 => if sm_ix (m.1 72 25) 14 then (if sm_ix (m.1 72 25) 14 then (if (0 : Int32) ≤ ((sm_w1 r57.2 82 ((m.1 72 25)).toNatClampNeg r57.1).1 82 ((m.1 72 25)).toNatClampNeg) then ((fX12_takes (103 : Int32) (sm_w1 r57.2 82 ((m.1 72 25)).toNatClampNeg r57.1)).bind fun r61 => if r61.1 = (0 : Int32) then (if sm_ix (m.1 72 25) 14 then (some ((1 : Int32), (sm_w1 (sm_w1 (sm_w1 r61.2 72 26 ((r57.2.1 72 26) ||| (0 : Int32))) 83 ((m.1 72 25)).toNatClampNeg (-1 : Int32)) 72 25 ((r61.2.1 72 25) + (1 : Int32))))) else (none)) else (if sm_ix (m.1 72 25) 14 then (some ((1 : Int32), (sm_w1 (sm_w1 (sm_w1 r61.2 72 26 ((r57.2.1 72 26) ||| ((1 : Int32) <<< ((m.1 72 25) &&& (31 : Int32))))) 83 ((m.1 72 25)).toNatClampNeg (-1 : Int32)) 72 25 ((r61.2.1 72 25) + (1 : Int32))))) else (none))) else (some ((0 : Int32), (sm_w1 r57.2 82 ((m.1 72 25)).toNatClampNeg r57.1)))) else (none)) else (none))) else (some ((0 : Int32), (sm_w1 r45.2 81 ((m.1 72 25)).toNatClampNeg r45.1)))) else (none)) else (none))) else (some ((0 : Int32), (sm_w1 r21.2 80 ((m.1 72 25)).toNatClampNeg r21.1)))) else (none)) else (none)) else (some ((0 : Int32), S))) := by
  have hfu := fuE
  have kc1 : 0 ≤ (S.1 72 25).toInt ∧ (S.1 72 25).toInt ≤ 14 := hI.1 72 25
  have kc2 : 0 ≤ (S.1 72 22).toInt ∧ (S.1 72 22).toInt ≤ 80 := hI.1 72 22
  have kc3 : 0 ≤ (m.1 72 25).toInt ∧ (m.1 72 25).toInt ≤ 14 := hM.1 72 25
  have kc4 := L0
  have kc5 : (-1 : Int) ≤ (S.1 79 ((m.1 72 25)).toNatClampNeg).toInt ∧ (S.1 79 ((m.1 72 25)).toNatClampNeg).toInt ≤ 9 := hI.1 79 ((m.1 72 25)).toNatClampNeg
  refine s_le (fun kh6 => ?_) (fun kh6 => ?_)
  · have kc7 := L5
    refine s_bd (zX12_digit_w (5 : Int32) S (show 5 ≤ (5 : Int32).toInt ∧ (5 : Int32).toInt ≤ 9 by omega) hI) (fun r21 kr8 => ?_)
    obtain ⟨kp9, ki10, kf11⟩ := kr8
    replace kp9 : ((-1 : Int) ≤ r21.1.toInt) ∧ (r21.1.toInt ≤ 9) ∧ ((S.1 72 22).toInt ≤ (r21.2.1 72 22).toInt) := kp9
    have kc12 : 0 ≤ (r21.2.1 72 22).toInt ∧ (r21.2.1 72 22).toInt ≤ 80 := ki10.1 72 22
    have kc13 : (-1 : Int) ≤ (r21.2.1 76 ((m.1 72 25)).toNatClampNeg).toInt ∧ (r21.2.1 76 ((m.1 72 25)).toNatClampNeg).toInt ≤ 9 := ki10.1 76 ((m.1 72 25)).toNatClampNeg
    have kc14 : (r21.2.1 76 ((m.1 72 25)).toNatClampNeg).toInt = (S.1 76 ((m.1 72 25)).toNatClampNeg).toInt := congrArg Int32.toInt (kf11 76 ((m.1 72 25)).toNatClampNeg rfl)
    have kc15 : (-1 : Int) ≤ (S.1 76 ((m.1 72 25)).toNatClampNeg).toInt ∧ (S.1 76 ((m.1 72 25)).toNatClampNeg).toInt ≤ 9 := hI.1 76 ((m.1 72 25)).toNatClampNeg
    have kc16 : (-1 : Int) ≤ (r21.2.1 77 ((m.1 72 25)).toNatClampNeg).toInt ∧ (r21.2.1 77 ((m.1 72 25)).toNatClampNeg).toInt ≤ 9 := ki10.1 77 ((m.1 72 25)).toNatClampNeg
    have kc17 : (r21.2.1 77 ((m.1 72 25)).toNatClampNeg).toInt = (S.1 77 ((m.1 72 25)).toNatClampNeg).toInt := congrArg Int32.toInt (kf11 77 ((m.1 72 25)).toNatClampNeg rfl)
    have kc18 : (-1 : Int) ≤ (S.1 77 ((m.1 72 25)).toNatClampNeg).toInt ∧ (S.1 77 ((m.1 72 25)).toNatClampNeg).toInt ≤ 9 := hI.1 77 ((m.1 72 25)).toNatClampNeg
    have kc19 : (-1 : Int) ≤ (r21.2.1 78 ((m.1 72 25)).toNatClampNeg).toInt ∧ (r21.2.1 78 ((m.1 72 25)).toNatClampNeg).toInt ≤ 20 := ki10.1 78 ((m.1 72 25)).toNatClampNeg
    have kc20 : (r21.2.1 78 ((m.1 72 25)).toNatClampNeg).toInt = (S.1 78 ((m.1 72 25)).toNatClampNeg).toInt := congrArg Int32.toInt (kf11 78 ((m.1 72 25)).toNatClampNeg rfl)
    have kc21 : (-1 : Int) ≤ (S.1 78 ((m.1 72 25)).toNatClampNeg).toInt ∧ (S.1 78 ((m.1 72 25)).toNatClampNeg).toInt ≤ 20 := hI.1 78 ((m.1 72 25)).toNatClampNeg
    have kc22 : (-1 : Int) ≤ (r21.2.1 82 ((m.1 72 25)).toNatClampNeg).toInt ∧ (r21.2.1 82 ((m.1 72 25)).toNatClampNeg).toInt ≤ 9 := ki10.1 82 ((m.1 72 25)).toNatClampNeg
    have kc23 : (r21.2.1 82 ((m.1 72 25)).toNatClampNeg).toInt = (S.1 82 ((m.1 72 25)).toNatClampNeg).toInt := congrArg Int32.toInt (kf11 82 ((m.1 72 25)).toNatClampNeg rfl)
    have kc24 : (-1 : Int) ≤ (S.1 82 ((m.1 72 25)).toNatClampNeg).toInt ∧ (S.1 82 ((m.1 72 25)).toNatClampNeg).toInt ≤ 9 := hI.1 82 ((m.1 72 25)).toNatClampNeg
    have kc25 : 0 ≤ (r21.2.1 72 25).toInt ∧ (r21.2.1 72 25).toInt ≤ 14 := ki10.1 72 25
    have kc26 : (r21.2.1 72 25).toInt = (S.1 72 25).toInt := congrArg Int32.toInt (kf11 72 25 rfl)
    have kx27 : 0 ≤ ((m.1 72 25)).toInt ∧ ((m.1 72 25)).toInt < (14 : Int) := by omega
    refine s_ix kx27 ?_
    refine s_ix kx27 ?_
    have ki28 : zI (sm_w1 r21.2 80 ((m.1 72 25)).toNatClampNeg r21.1) := zI.w ki10 rfl (show (-1 : Int) ≤ (r21.1).toInt ∧ (r21.1).toInt ≤ 9 by omega)
    have kf29 : Fr wX12_readsHedge m r21.2 := Fr.trans hF kf11 rfl
    have kf30 : Fr wX12_readsHedge m (sm_w1 r21.2 80 ((m.1 72 25)).toNatClampNeg r21.1) := Fr.w kf29 rfl
    have kc31 : 0 ≤ ((sm_w1 r21.2 80 ((m.1 72 25)).toNatClampNeg r21.1).1 72 25).toInt ∧ ((sm_w1 r21.2 80 ((m.1 72 25)).toNatClampNeg r21.1).1 72 25).toInt ≤ 14 := ki28.1 72 25
    have kc32 : ((sm_w1 r21.2 80 ((m.1 72 25)).toNatClampNeg r21.1).1 72 25).toInt = (r21.2.1 72 25).toInt := congrArg Int32.toInt (r_cell (by decide))
    have kc33 : 0 ≤ ((sm_w1 r21.2 80 ((m.1 72 25)).toNatClampNeg r21.1).1 72 22).toInt ∧ ((sm_w1 r21.2 80 ((m.1 72 25)).toNatClampNeg r21.1).1 72 22).toInt ≤ 80 := ki28.1 72 22
    have kc34 : ((sm_w1 r21.2 80 ((m.1 72 25)).toNatClampNeg r21.1).1 72 22).toInt = (r21.2.1 72 22).toInt := congrArg Int32.toInt (r_cell (by decide))
    have kc35 : (-1 : Int) ≤ ((sm_w1 r21.2 80 ((m.1 72 25)).toNatClampNeg r21.1).1 76 ((m.1 72 25)).toNatClampNeg).toInt ∧ ((sm_w1 r21.2 80 ((m.1 72 25)).toNatClampNeg r21.1).1 76 ((m.1 72 25)).toNatClampNeg).toInt ≤ 9 := ki28.1 76 ((m.1 72 25)).toNatClampNeg
    have kc36 : ((sm_w1 r21.2 80 ((m.1 72 25)).toNatClampNeg r21.1).1 76 ((m.1 72 25)).toNatClampNeg).toInt = (r21.2.1 76 ((m.1 72 25)).toNatClampNeg).toInt := congrArg Int32.toInt (r_cell (by decide))
    have kc37 : (-1 : Int) ≤ ((sm_w1 r21.2 80 ((m.1 72 25)).toNatClampNeg r21.1).1 77 ((m.1 72 25)).toNatClampNeg).toInt ∧ ((sm_w1 r21.2 80 ((m.1 72 25)).toNatClampNeg r21.1).1 77 ((m.1 72 25)).toNatClampNeg).toInt ≤ 9 := ki28.1 77 ((m.1 72 25)).toNatClampNeg
    have kc38 : ((sm_w1 r21.2 80 ((m.1 72 25)).toNatClampNeg r21.1).1 77 ((m.1 72 25)).toNatClampNeg).toInt = (r21.2.1 77 ((m.1 72 25)).toNatClampNeg).toInt := congrArg Int32.toInt (r_cell (by decide))
    have kc39 : (-1 : Int) ≤ ((sm_w1 r21.2 80 ((m.1 72 25)).toNatClampNeg r21.1).1 78 ((m.1 72 25)).toNatClampNeg).toInt ∧ ((sm_w1 r21.2 80 ((m.1 72 25)).toNatClampNeg r21.1).1 78 ((m.1 72 25)).toNatClampNeg).toInt ≤ 20 := ki28.1 78 ((m.1 72 25)).toNatClampNeg
    have kc40 : ((sm_w1 r21.2 80 ((m.1 72 25)).toNatClampNeg r21.1).1 78 ((m.1 72 25)).toNatClampNeg).toInt = (r21.2.1 78 ((m.1 72 25)).toNatClampNeg).toInt := congrArg Int32.toInt (r_cell (by decide))
    exact zX12_readsHedge_c80 m (sm_w1 r21.2 80 ((m.1 72 25)).toNatClampNeg r21.1) hM ki28 kf30 (show 0 ≤ (m.1 72 25).toInt ∧ (m.1 72 25).toInt < 14 by omega) (show ((sm_w1 r21.2 80 ((m.1 72 25)).toNatClampNeg r21.1).1 72 25).toInt = (m.1 72 25).toInt by omega) (show (m.1 72 22).toInt ≤ ((sm_w1 r21.2 80 ((m.1 72 25)).toNatClampNeg r21.1).1 72 22).toInt by omega) (show 0 ≤ ((sm_w1 r21.2 80 ((m.1 72 25)).toNatClampNeg r21.1).1 76 ((m.1 72 25)).toNatClampNeg).toInt by omega) (show 0 ≤ ((sm_w1 r21.2 80 ((m.1 72 25)).toNatClampNeg r21.1).1 77 ((m.1 72 25)).toNatClampNeg).toInt by omega) (show 1 ≤ ((sm_w1 r21.2 80 ((m.1 72 25)).toNatClampNeg r21.1).1 78 ((m.1 72 25)).toNatClampNeg).toInt by omega)
  · have kc41 : 0 ≤ (m.1 72 22).toInt ∧ (m.1 72 22).toInt ≤ 80 := hM.1 72 22
    exact s_ret ⟨(show (0 ≤ (0 : Int32).toInt) ∧ ((0 : Int32).toInt ≤ 1) ∧ ((m.1 72 22).toInt ≤ (S.1 72 22).toInt) by omega), hI, hF⟩
theorem zX12_readsHedge_c78 (m S : sm_S) (hM : zI m) (hI : zI S) (hF : Fr wX12_readsHedge m S) (hk : 0 ≤ (m.1 72 25).toInt ∧ (m.1 72 25).toInt < 14) (hc0 : (S.1 72 25).toInt = (m.1 72 25).toInt) (hc1 : (m.1 72 22).toInt ≤ (S.1 72 22).toInt) (hc2 : (S.1 78 ((m.1 72 25)).toNatClampNeg).toInt < 0 ∨ 1 ≤ (S.1 78 ((m.1 72 25)).toNatClampNeg).toInt) (hc3 : 0 ≤ (S.1 76 ((m.1 72 25)).toNatClampNeg).toInt) (hc4 : 0 ≤ (S.1 77 ((m.1 72 25)).toNatClampNeg).toInt) : Sf (fun r => ((0 ≤ r.1.toInt) ∧ (r.1.toInt ≤ 1) ∧ ((m.1 72 22).toInt ≤ (r.2.1 72 22).toInt)) ∧ zI r.2 ∧ Fr wX12_readsHedge m r.2) (if (S.1 78 ((m.1 72 25)).toNatClampNeg) < (0 : Int32) then (some ((0 : Int32), S)) else ((fX12_takes (58 : Int32) S).bind fun r15 => if r15.1 = (0 : Int32) then (some ((0 : Int32), r15.2)) else ((fX12_digit (5 : Int32) r15.2).bind fun r17 => if sm_ix (m.1 72 25) 14 then (if sm_ix (m.1 72 25) 14 then (if (0 : Int32) ≤ ((sm_w1 r17.2 79 ((m.1 72 25)).toNatClampNeg r17.1).1 79 ((m.1 72 25)).toNatClampNeg) then ((fX12_digit (5 : Int32) (sm_w1 r17.2 79 ((m.1 72 25)).toNatClampNeg r17.1)).bind fun r21 => if sm_ix (m.1 72 25) 14 then (if sm_ix (m.1 72 25) 14 then (if (0 : Int32) ≤ ((sm_w1 r21.2 80 ((m.1 72 25)).toNatClampNeg r21.1).1 80 ((m.1 72 25)).toNatClampNeg) then ((fX12_takes (119 : Int32) (sm_w1 r21.2 80 ((m.1 72 25)).toNatClampNeg r21.1)).bind fun r25 => if r25.1 = (0 : Int32) then (if sm_ix (m.1 72 25) 14 then (if sm_ix (m.1 72 25) 14 then (if (0 : Int32) ≤ ((sm_w1 r25.2 81 ((m.1 72 25)).toNatClampNeg (1 : Int32)).1 81 ((m.1 72 25)).toNatClampNeg) then ((fX12_takes (126 : Int32) (sm_w1 r25.2 81 ((m.1 72 25)).toNatClampNeg (1 : Int32))).bind fun r29 => if r29.1 = (0 : Int32) then (if sm_ix (m.1 72 25) 14 then (if sm_ix (m.1 72 25) 14 then (if (0 : Int32) ≤ ((sm_w1 r29.2 82 ((m.1 72 25)).toNatClampNeg (0 : Int32)).1 82 ((m.1 72 25)).toNatClampNeg) then ((fX12_takes (103 : Int32) (sm_w1 r29.2 82 ((m.1 72 25)).toNatClampNeg (0 : Int32))).bind fun r33 => if r33.1 = (0 : Int32) then (if sm_ix (m.1 72 25) 14 then (some ((1 : Int32), (sm_w1 (sm_w1 (sm_w1 r33.2 72 26 ((r29.2.1 72 26) ||| (0 : Int32))) 83 ((m.1 72 25)).toNatClampNeg (-1 : Int32)) 72 25 ((r33.2.1 72 25) + (1 : Int32))))) else (none)) else (if sm_ix (m.1 72 25) 14 then (some ((1 : Int32), (sm_w1 (sm_w1 (sm_w1 r33.2 72 26 ((r29.2.1 72 26) ||| ((1 : Int32) <<< ((m.1 72 25) &&& (31 : Int32))))) 83 ((m.1 72 25)).toNatClampNeg (-1 : Int32)) 72 25 ((r33.2.1 72 25) + (1 : Int32))))) else (none))) else (some ((0 : Int32), (sm_w1 r29.2 82 ((m.1 72 25)).toNatClampNeg (0 : Int32))))) else (none)) else (none)) else ((fX12_digit (9 : Int32) r29.2).bind fun r37 => if sm_ix (m.1 72 25) 14 then (if sm_ix (m.1 72 25) 14 then (if (0 : Int32) ≤ ((sm_w1 r37.2 82 ((m.1 72 25)).toNatClampNeg r37.1).1 82 ((m.1 72 25)).toNatClampNeg) then ((fX12_takes (103 : Int32) (sm_w1 r37.2 82 ((m.1 72 25)).toNatClampNeg r37.1)).bind fun r41 => if r41.1 = (0 : Int32) then (if sm_ix (m.1 72 25) 14 then (some ((1 : Int32), (sm_w1 (sm_w1 (sm_w1 r41.2 72 26 ((r37.2.1 72 26) ||| (0 : Int32))) 83 ((m.1 72 25)).toNatClampNeg (-1 : Int32)) 72 25 ((r41.2.1 72 25) + (1 : Int32))))) else (none)) else (if sm_ix (m.1 72 25) 14 then (some ((1 : Int32), (sm_w1 (sm_w1 (sm_w1 r41.2 72 26 ((r37.2.1 72 26) ||| ((1 : Int32) <<< ((m.1 72 25) &&& (31 : Int32))))) 83 ((m.1 72 25)).toNatClampNeg (-1 : Int32)) 72 25 ((r41.2.1 72 25) + (1 : Int32))))) else (none))) else (some ((0 : Int32), (sm_w1 r37.2 82 ((m.1 72 25)).toNatClampNeg r37.1)))) else (none)) else (none))) else (some ((0 : Int32), (sm_w1 r25.2 81 ((m.1 72 25)).toNatClampNeg (1 : Int32))))) else (none)) else (none)) else ((fX12_digit (9 : Int32) r25.2).bind fun r45 => if sm_ix (m.1 72 25) 14 then (if sm_ix (m.1 72 25) 14 then (if (0 : Int32) ≤ ((sm_w1 r45.2 81 ((m.1 72 25)).toNatClampNeg r45.1).1 81 ((m.1 72 25)).toNatClampNeg) then ((fX12_takes (126 : Int32) (sm_w1 r45.2 81 ((m.1 72 25)).toNatClampNeg r45.1)).bind fun r49 => if r49.1 = (0 : Int32) then (if sm_ix (m.1 72 25) 14 then (if sm_ix (m.1 72 25) 14 then (if (0 : Int32) ≤ ((sm_w1 r49.2 82 ((m.1 72 25)).toNatClampNeg (0 : Int32)).1 82 ((m.1 72 25)).toNatClampNeg) then ((fX12_takes (103 : Int32) (sm_w1 r49.2 82 ((m.1 72 25)).toNatClampNeg (0 : Int32))).bind fun r53 => if r53.1 = (0 : Int32) then (if sm_ix (m.1 72 25) 14 then (some ((1 : Int32), (sm_w1 (sm_w1 (sm_w1 r53.2 72 26 ((r49.2.1 72 26) ||| (0 : Int32))) 83 ((m.1 72 25)).toNatClampNeg (-1 : Int32)) 72 25 ((r53.2.1 72 25) + (1 : Int32))))) else (none)) else (if sm_ix (m.1 72 25) 14 then (some ((1 : Int32), (sm_w1 (sm_w1 (sm_w1 r53.2 72 26 ((r49.2.1 72 26) ||| ((1 : Int32) <<< ((m.1 72 25) &&& (31 : Int32))))) 83 ((m.1 72 25)).toNatClampNeg (-1 : Int32)) 72 25 ((r53.2.1 72 25) + (1 : Int32))))) else (none))) else (some ((0 : Int32), (sm_w1 r49.2 82 ((m.1 72 25)).toNatClampNeg (0 : Int32))))) else (none)) else (none)) else ((fX12_digit (9 : Int32) r49.2).bind fun r57 => if sm_ix (m.1 72 25) 14 then (if sm_ix (m.1 72 25) 14 then (if (0 : Int32) ≤ ((sm_w1 r57.2 82 ((m.1 72 25)).toNatClampNeg r57.1).1 82 ((m.1 72 25)).toNatClampNeg) then ((fX12_takes (103 : Int32) (sm_w1 r57.2 82 ((m.1 72 25)).toNatClampNeg r57.1)).bind fun r61 => if r61.1 = (0 : Int32) then (if sm_ix (m.1 72 25) 14 then (some ((1 : Int32), (sm_w1 (sm_w1 (sm_w1 r61.2 72 26 ((r57.2.1 72 26) ||| (0 : Int32))) 83 ((m.1 72 25)).toNatClampNeg (-1 : Int32)) 72 25 ((r61.2.1 72 25) + (1 : Int32))))) else (none)) else (if sm_ix (m.1 72 25) 14 then (some ((1 : Int32), (sm_w1 (sm_w1 (sm_w1 r61.2 72 26 ((r57.2.1 72 26) ||| ((1 : Int32) <<< ((m.1 72 25) &&& (31 : Int32))))) 83 ((m.1 72 25)).toNatClampNeg (-1 : Int32)) 72 25 ((r61.2.1 72 25) + (1 : Int32))))) else (none))) else (some ((0 : Int32), (sm_w1 r57.2 82 ((m.1 72 25)).toNatClampNeg r57.1)))) else (none)) else (none))) else (some ((0 : Int32), (sm_w1 r45.2 81 ((m.1 72 25)).toNatClampNeg r45.1)))) else (none)) else (none))) else (some ((0 : Int32), (sm_w1 r21.2 80 ((m.1 72 25)).toNatClampNeg r21.1)))) else (none)) else (none)) else (some ((0 : Int32), (sm_w1 r17.2 79 ((m.1 72 25)).toNatClampNeg r17.1)))) else (none)) else (none)))) := by
  have hfu := fuE
  have kc1 : 0 ≤ (S.1 72 25).toInt ∧ (S.1 72 25).toInt ≤ 14 := hI.1 72 25
  have kc2 : 0 ≤ (S.1 72 22).toInt ∧ (S.1 72 22).toInt ≤ 80 := hI.1 72 22
  have kc3 : 0 ≤ (m.1 72 25).toInt ∧ (m.1 72 25).toInt ≤ 14 := hM.1 72 25
  have kc4 : (-1 : Int) ≤ (S.1 78 ((m.1 72 25)).toNatClampNeg).toInt ∧ (S.1 78 ((m.1 72 25)).toNatClampNeg).toInt ≤ 20 := hI.1 78 ((m.1 72 25)).toNatClampNeg
  have kc5 := L0
  refine s_lt (fun kh6 => ?_) (fun kh6 => ?_)
  · have kc7 : 0 ≤ (m.1 72 22).toInt ∧ (m.1 72 22).toInt ≤ 80 := hM.1 72 22
    exact s_ret ⟨(show (0 ≤ (0 : Int32).toInt) ∧ ((0 : Int32).toInt ≤ 1) ∧ ((m.1 72 22).toInt ≤ (S.1 72 22).toInt) by omega), hI, hF⟩
  · have kc8 := L58
    refine s_bd (zX12_takes (58 : Int32) S (show 58 ≤ (58 : Int32).toInt ∧ (58 : Int32).toInt ≤ 126 by omega) hI) (fun r15 kr9 => ?_)
    obtain ⟨kp10, ki11, kf12⟩ := kr9
    replace kp10 : (0 ≤ r15.1.toInt) ∧ (r15.1.toInt ≤ 1) ∧ ((r15.2.1 72 22).toInt = (S.1 72 22).toInt + r15.1.toInt) := kp10
    have kc13 : 0 ≤ (r15.2.1 72 22).toInt ∧ (r15.2.1 72 22).toInt ≤ 80 := ki11.1 72 22
    have kc14 : (-1 : Int) ≤ (r15.2.1 76 ((m.1 72 25)).toNatClampNeg).toInt ∧ (r15.2.1 76 ((m.1 72 25)).toNatClampNeg).toInt ≤ 9 := ki11.1 76 ((m.1 72 25)).toNatClampNeg
    have kc15 : (r15.2.1 76 ((m.1 72 25)).toNatClampNeg).toInt = (S.1 76 ((m.1 72 25)).toNatClampNeg).toInt := congrArg Int32.toInt (kf12 76 ((m.1 72 25)).toNatClampNeg rfl)
    have kc16 : (-1 : Int) ≤ (S.1 76 ((m.1 72 25)).toNatClampNeg).toInt ∧ (S.1 76 ((m.1 72 25)).toNatClampNeg).toInt ≤ 9 := hI.1 76 ((m.1 72 25)).toNatClampNeg
    have kc17 : (-1 : Int) ≤ (r15.2.1 77 ((m.1 72 25)).toNatClampNeg).toInt ∧ (r15.2.1 77 ((m.1 72 25)).toNatClampNeg).toInt ≤ 9 := ki11.1 77 ((m.1 72 25)).toNatClampNeg
    have kc18 : (r15.2.1 77 ((m.1 72 25)).toNatClampNeg).toInt = (S.1 77 ((m.1 72 25)).toNatClampNeg).toInt := congrArg Int32.toInt (kf12 77 ((m.1 72 25)).toNatClampNeg rfl)
    have kc19 : (-1 : Int) ≤ (S.1 77 ((m.1 72 25)).toNatClampNeg).toInt ∧ (S.1 77 ((m.1 72 25)).toNatClampNeg).toInt ≤ 9 := hI.1 77 ((m.1 72 25)).toNatClampNeg
    have kc20 : (-1 : Int) ≤ (r15.2.1 78 ((m.1 72 25)).toNatClampNeg).toInt ∧ (r15.2.1 78 ((m.1 72 25)).toNatClampNeg).toInt ≤ 20 := ki11.1 78 ((m.1 72 25)).toNatClampNeg
    have kc21 : (r15.2.1 78 ((m.1 72 25)).toNatClampNeg).toInt = (S.1 78 ((m.1 72 25)).toNatClampNeg).toInt := congrArg Int32.toInt (kf12 78 ((m.1 72 25)).toNatClampNeg rfl)
    have kc22 : (-1 : Int) ≤ (r15.2.1 82 ((m.1 72 25)).toNatClampNeg).toInt ∧ (r15.2.1 82 ((m.1 72 25)).toNatClampNeg).toInt ≤ 9 := ki11.1 82 ((m.1 72 25)).toNatClampNeg
    have kc23 : (r15.2.1 82 ((m.1 72 25)).toNatClampNeg).toInt = (S.1 82 ((m.1 72 25)).toNatClampNeg).toInt := congrArg Int32.toInt (kf12 82 ((m.1 72 25)).toNatClampNeg rfl)
    have kc24 : (-1 : Int) ≤ (S.1 82 ((m.1 72 25)).toNatClampNeg).toInt ∧ (S.1 82 ((m.1 72 25)).toNatClampNeg).toInt ≤ 9 := hI.1 82 ((m.1 72 25)).toNatClampNeg
    have kc25 : 0 ≤ (r15.2.1 72 25).toInt ∧ (r15.2.1 72 25).toInt ≤ 14 := ki11.1 72 25
    have kc26 : (r15.2.1 72 25).toInt = (S.1 72 25).toInt := congrArg Int32.toInt (kf12 72 25 rfl)
    refine s_eq (fun kh27 => ?_) (fun kh27 => ?_)
    · have kc28 : 0 ≤ (m.1 72 22).toInt ∧ (m.1 72 22).toInt ≤ 80 := hM.1 72 22
      have kf29 : Fr wX12_readsHedge m r15.2 := Fr.trans hF kf12 rfl
      exact s_ret ⟨(show (0 ≤ (0 : Int32).toInt) ∧ ((0 : Int32).toInt ≤ 1) ∧ ((m.1 72 22).toInt ≤ (r15.2.1 72 22).toInt) by omega), ki11, kf29⟩
    · have kc30 := L5
      refine s_bd (zX12_digit_w (5 : Int32) r15.2 (show 5 ≤ (5 : Int32).toInt ∧ (5 : Int32).toInt ≤ 9 by omega) ki11) (fun r17 kr31 => ?_)
      obtain ⟨kp32, ki33, kf34⟩ := kr31
      replace kp32 : ((-1 : Int) ≤ r17.1.toInt) ∧ (r17.1.toInt ≤ 9) ∧ ((r15.2.1 72 22).toInt ≤ (r17.2.1 72 22).toInt) := kp32
      have kc35 : 0 ≤ (r17.2.1 72 22).toInt ∧ (r17.2.1 72 22).toInt ≤ 80 := ki33.1 72 22
      have kc36 : (-1 : Int) ≤ (r17.2.1 76 ((m.1 72 25)).toNatClampNeg).toInt ∧ (r17.2.1 76 ((m.1 72 25)).toNatClampNeg).toInt ≤ 9 := ki33.1 76 ((m.1 72 25)).toNatClampNeg
      have kc37 : (r17.2.1 76 ((m.1 72 25)).toNatClampNeg).toInt = (r15.2.1 76 ((m.1 72 25)).toNatClampNeg).toInt := congrArg Int32.toInt (kf34 76 ((m.1 72 25)).toNatClampNeg rfl)
      have kc38 : (-1 : Int) ≤ (r17.2.1 77 ((m.1 72 25)).toNatClampNeg).toInt ∧ (r17.2.1 77 ((m.1 72 25)).toNatClampNeg).toInt ≤ 9 := ki33.1 77 ((m.1 72 25)).toNatClampNeg
      have kc39 : (r17.2.1 77 ((m.1 72 25)).toNatClampNeg).toInt = (r15.2.1 77 ((m.1 72 25)).toNatClampNeg).toInt := congrArg Int32.toInt (kf34 77 ((m.1 72 25)).toNatClampNeg rfl)
      have kc40 : (-1 : Int) ≤ (r17.2.1 78 ((m.1 72 25)).toNatClampNeg).toInt ∧ (r17.2.1 78 ((m.1 72 25)).toNatClampNeg).toInt ≤ 20 := ki33.1 78 ((m.1 72 25)).toNatClampNeg
      have kc41 : (r17.2.1 78 ((m.1 72 25)).toNatClampNeg).toInt = (r15.2.1 78 ((m.1 72 25)).toNatClampNeg).toInt := congrArg Int32.toInt (kf34 78 ((m.1 72 25)).toNatClampNeg rfl)
      have kc42 : (-1 : Int) ≤ (r17.2.1 82 ((m.1 72 25)).toNatClampNeg).toInt ∧ (r17.2.1 82 ((m.1 72 25)).toNatClampNeg).toInt ≤ 9 := ki33.1 82 ((m.1 72 25)).toNatClampNeg
      have kc43 : (r17.2.1 82 ((m.1 72 25)).toNatClampNeg).toInt = (r15.2.1 82 ((m.1 72 25)).toNatClampNeg).toInt := congrArg Int32.toInt (kf34 82 ((m.1 72 25)).toNatClampNeg rfl)
      have kc44 : 0 ≤ (r17.2.1 72 25).toInt ∧ (r17.2.1 72 25).toInt ≤ 14 := ki33.1 72 25
      have kc45 : (r17.2.1 72 25).toInt = (r15.2.1 72 25).toInt := congrArg Int32.toInt (kf34 72 25 rfl)
      have kx46 : 0 ≤ ((m.1 72 25)).toInt ∧ ((m.1 72 25)).toInt < (14 : Int) := by omega
      refine s_ix kx46 ?_
      refine s_ix kx46 ?_
      have ki47 : zI (sm_w1 r17.2 79 ((m.1 72 25)).toNatClampNeg r17.1) := zI.w ki33 rfl (show (-1 : Int) ≤ (r17.1).toInt ∧ (r17.1).toInt ≤ 9 by omega)
      have kf48 : Fr wX12_readsHedge m r15.2 := Fr.trans hF kf12 rfl
      have kf49 : Fr wX12_readsHedge m r17.2 := Fr.trans kf48 kf34 rfl
      have kf50 : Fr wX12_readsHedge m (sm_w1 r17.2 79 ((m.1 72 25)).toNatClampNeg r17.1) := Fr.w kf49 rfl
      have kc51 : 0 ≤ ((sm_w1 r17.2 79 ((m.1 72 25)).toNatClampNeg r17.1).1 72 25).toInt ∧ ((sm_w1 r17.2 79 ((m.1 72 25)).toNatClampNeg r17.1).1 72 25).toInt ≤ 14 := ki47.1 72 25
      have kc52 : ((sm_w1 r17.2 79 ((m.1 72 25)).toNatClampNeg r17.1).1 72 25).toInt = (r17.2.1 72 25).toInt := congrArg Int32.toInt (r_cell (by decide))
      have kc53 : 0 ≤ ((sm_w1 r17.2 79 ((m.1 72 25)).toNatClampNeg r17.1).1 72 22).toInt ∧ ((sm_w1 r17.2 79 ((m.1 72 25)).toNatClampNeg r17.1).1 72 22).toInt ≤ 80 := ki47.1 72 22
      have kc54 : ((sm_w1 r17.2 79 ((m.1 72 25)).toNatClampNeg r17.1).1 72 22).toInt = (r17.2.1 72 22).toInt := congrArg Int32.toInt (r_cell (by decide))
      have kc55 : (-1 : Int) ≤ ((sm_w1 r17.2 79 ((m.1 72 25)).toNatClampNeg r17.1).1 76 ((m.1 72 25)).toNatClampNeg).toInt ∧ ((sm_w1 r17.2 79 ((m.1 72 25)).toNatClampNeg r17.1).1 76 ((m.1 72 25)).toNatClampNeg).toInt ≤ 9 := ki47.1 76 ((m.1 72 25)).toNatClampNeg
      have kc56 : ((sm_w1 r17.2 79 ((m.1 72 25)).toNatClampNeg r17.1).1 76 ((m.1 72 25)).toNatClampNeg).toInt = (r17.2.1 76 ((m.1 72 25)).toNatClampNeg).toInt := congrArg Int32.toInt (r_cell (by decide))
      have kc57 : (-1 : Int) ≤ ((sm_w1 r17.2 79 ((m.1 72 25)).toNatClampNeg r17.1).1 77 ((m.1 72 25)).toNatClampNeg).toInt ∧ ((sm_w1 r17.2 79 ((m.1 72 25)).toNatClampNeg r17.1).1 77 ((m.1 72 25)).toNatClampNeg).toInt ≤ 9 := ki47.1 77 ((m.1 72 25)).toNatClampNeg
      have kc58 : ((sm_w1 r17.2 79 ((m.1 72 25)).toNatClampNeg r17.1).1 77 ((m.1 72 25)).toNatClampNeg).toInt = (r17.2.1 77 ((m.1 72 25)).toNatClampNeg).toInt := congrArg Int32.toInt (r_cell (by decide))
      have kc59 : (-1 : Int) ≤ ((sm_w1 r17.2 79 ((m.1 72 25)).toNatClampNeg r17.1).1 78 ((m.1 72 25)).toNatClampNeg).toInt ∧ ((sm_w1 r17.2 79 ((m.1 72 25)).toNatClampNeg r17.1).1 78 ((m.1 72 25)).toNatClampNeg).toInt ≤ 20 := ki47.1 78 ((m.1 72 25)).toNatClampNeg
      have kc60 : ((sm_w1 r17.2 79 ((m.1 72 25)).toNatClampNeg r17.1).1 78 ((m.1 72 25)).toNatClampNeg).toInt = (r17.2.1 78 ((m.1 72 25)).toNatClampNeg).toInt := congrArg Int32.toInt (r_cell (by decide))
      exact zX12_readsHedge_c79 m (sm_w1 r17.2 79 ((m.1 72 25)).toNatClampNeg r17.1) hM ki47 kf50 (show 0 ≤ (m.1 72 25).toInt ∧ (m.1 72 25).toInt < 14 by omega) (show ((sm_w1 r17.2 79 ((m.1 72 25)).toNatClampNeg r17.1).1 72 25).toInt = (m.1 72 25).toInt by omega) (show (m.1 72 22).toInt ≤ ((sm_w1 r17.2 79 ((m.1 72 25)).toNatClampNeg r17.1).1 72 22).toInt by omega) (show 0 ≤ ((sm_w1 r17.2 79 ((m.1 72 25)).toNatClampNeg r17.1).1 76 ((m.1 72 25)).toNatClampNeg).toInt by omega) (show 0 ≤ ((sm_w1 r17.2 79 ((m.1 72 25)).toNatClampNeg r17.1).1 77 ((m.1 72 25)).toNatClampNeg).toInt by omega) (show 1 ≤ ((sm_w1 r17.2 79 ((m.1 72 25)).toNatClampNeg r17.1).1 78 ((m.1 72 25)).toNatClampNeg).toInt by omega)
theorem zX12_readsHedge_c77 (m S : sm_S) (hM : zI m) (hI : zI S) (hF : Fr wX12_readsHedge m S) (hk : 0 ≤ (m.1 72 25).toInt ∧ (m.1 72 25).toInt < 14) (hc0 : (S.1 72 25).toInt = (m.1 72 25).toInt) (hc1 : (m.1 72 22).toInt ≤ (S.1 72 22).toInt) (hc2 : 0 ≤ (S.1 76 ((m.1 72 25)).toNatClampNeg).toInt) : Sf (fun r => ((0 ≤ r.1.toInt) ∧ (r.1.toInt ≤ 1) ∧ ((m.1 72 22).toInt ≤ (r.2.1 72 22).toInt)) ∧ zI r.2 ∧ Fr wX12_readsHedge m r.2) (if (0 : Int32) ≤ (S.1 77 ((m.1 72 25)).toNatClampNeg) then ((fX12_number (1 : Int32) (20 : Int32) S).bind fun r11 => if sm_ix (m.1 72 25) 14 then (if sm_ix (m.1 72 25) 14 then (if ((sm_w1 r11.2 78 ((m.1 72 25)).toNatClampNeg r11.1).1 78 ((m.1 72 25)).toNatClampNeg) < (0 : Int32) then (some ((0 : Int32), (sm_w1 r11.2 78 ((m.1 72 25)).toNatClampNeg r11.1))) else ((fX12_takes (58 : Int32) (sm_w1 r11.2 78 ((m.1 72 25)).toNatClampNeg r11.1)).bind fun r15 => if r15.1 = (0 : Int32) then (some ((0 : Int32), r15.2)) else ((fX12_digit (5 : Int32) r15.2).bind fun r17 => if sm_ix (m.1 72 25) 14 then (if sm_ix (m.1 72 25) 14 then (if (0 : Int32) ≤ ((sm_w1 r17.2 79 ((m.1 72 25)).toNatClampNeg r17.1).1 79 ((m.1 72 25)).toNatClampNeg) then ((fX12_digit (5 : Int32) (sm_w1 r17.2 79 ((m.1 72 25)).toNatClampNeg r17.1)).bind fun r21 => if sm_ix (m.1 72 25) 14 then (if sm_ix (m.1 72 25) 14 then (if (0 : Int32) ≤ ((sm_w1 r21.2 80 ((m.1 72 25)).toNatClampNeg r21.1).1 80 ((m.1 72 25)).toNatClampNeg) then ((fX12_takes (119 : Int32) (sm_w1 r21.2 80 ((m.1 72 25)).toNatClampNeg r21.1)).bind fun r25 => if r25.1 = (0 : Int32) then (if sm_ix (m.1 72 25) 14 then (if sm_ix (m.1 72 25) 14 then (if (0 : Int32) ≤ ((sm_w1 r25.2 81 ((m.1 72 25)).toNatClampNeg (1 : Int32)).1 81 ((m.1 72 25)).toNatClampNeg) then ((fX12_takes (126 : Int32) (sm_w1 r25.2 81 ((m.1 72 25)).toNatClampNeg (1 : Int32))).bind fun r29 => if r29.1 = (0 : Int32) then (if sm_ix (m.1 72 25) 14 then (if sm_ix (m.1 72 25) 14 then (if (0 : Int32) ≤ ((sm_w1 r29.2 82 ((m.1 72 25)).toNatClampNeg (0 : Int32)).1 82 ((m.1 72 25)).toNatClampNeg) then ((fX12_takes (103 : Int32) (sm_w1 r29.2 82 ((m.1 72 25)).toNatClampNeg (0 : Int32))).bind fun r33 => if r33.1 = (0 : Int32) then (if sm_ix (m.1 72 25) 14 then (some ((1 : Int32), (sm_w1 (sm_w1 (sm_w1 r33.2 72 26 ((r29.2.1 72 26) ||| (0 : Int32))) 83 ((m.1 72 25)).toNatClampNeg (-1 : Int32)) 72 25 ((r33.2.1 72 25) + (1 : Int32))))) else (none)) else (if sm_ix (m.1 72 25) 14 then (some ((1 : Int32), (sm_w1 (sm_w1 (sm_w1 r33.2 72 26 ((r29.2.1 72 26) ||| ((1 : Int32) <<< ((m.1 72 25) &&& (31 : Int32))))) 83 ((m.1 72 25)).toNatClampNeg (-1 : Int32)) 72 25 ((r33.2.1 72 25) + (1 : Int32))))) else (none))) else (some ((0 : Int32), (sm_w1 r29.2 82 ((m.1 72 25)).toNatClampNeg (0 : Int32))))) else (none)) else (none)) else ((fX12_digit (9 : Int32) r29.2).bind fun r37 => if sm_ix (m.1 72 25) 14 then (if sm_ix (m.1 72 25) 14 then (if (0 : Int32) ≤ ((sm_w1 r37.2 82 ((m.1 72 25)).toNatClampNeg r37.1).1 82 ((m.1 72 25)).toNatClampNeg) then ((fX12_takes (103 : Int32) (sm_w1 r37.2 82 ((m.1 72 25)).toNatClampNeg r37.1)).bind fun r41 => if r41.1 = (0 : Int32) then (if sm_ix (m.1 72 25) 14 then (some ((1 : Int32), (sm_w1 (sm_w1 (sm_w1 r41.2 72 26 ((r37.2.1 72 26) ||| (0 : Int32))) 83 ((m.1 72 25)).toNatClampNeg (-1 : Int32)) 72 25 ((r41.2.1 72 25) + (1 : Int32))))) else (none)) else (if sm_ix (m.1 72 25) 14 then (some ((1 : Int32), (sm_w1 (sm_w1 (sm_w1 r41.2 72 26 ((r37.2.1 72 26) ||| ((1 : Int32) <<< ((m.1 72 25) &&& (31 : Int32))))) 83 ((m.1 72 25)).toNatClampNeg (-1 : Int32)) 72 25 ((r41.2.1 72 25) + (1 : Int32))))) else (none))) else (some ((0 : Int32), (sm_w1 r37.2 82 ((m.1 72 25)).toNatClampNeg r37.1)))) else (none)) else (none))) else (some ((0 : Int32), (sm_w1 r25.2 81 ((m.1 72 25)).toNatClampNeg (1 : Int32))))) else (none)) else (none)) else ((fX12_digit (9 : Int32) r25.2).bind fun r45 => if sm_ix (m.1 72 25) 14 then (if sm_ix (m.1 72 25) 14 then (if (0 : Int32) ≤ ((sm_w1 r45.2 81 ((m.1 72 25)).toNatClampNeg r45.1).1 81 ((m.1 72 25)).toNatClampNeg) then ((fX12_takes (126 : Int32) (sm_w1 r45.2 81 ((m.1 72 25)).toNatClampNeg r45.1)).bind fun r49 => if r49.1 = (0 : Int32) then (if sm_ix (m.1 72 25) 14 then (if sm_ix (m.1 72 25) 14 then (if (0 : Int32) ≤ ((sm_w1 r49.2 82 ((m.1 72 25)).toNatClampNeg (0 : Int32)).1 82 ((m.1 72 25)).toNatClampNeg) then ((fX12_takes (103 : Int32) (sm_w1 r49.2 82 ((m.1 72 25)).toNatClampNeg (0 : Int32))).bind fun r53 => if r53.1 = (0 : Int32) then (if sm_ix (m.1 72 25) 14 then (some ((1 : Int32), (sm_w1 (sm_w1 (sm_w1 r53.2 72 26 ((r49.2.1 72 26) ||| (0 : Int32))) 83 ((m.1 72 25)).toNatClampNeg (-1 : Int32)) 72 25 ((r53.2.1 72 25) + (1 : Int32))))) else (none)) else (if sm_ix (m.1 72 25) 14 then (some ((1 : Int32), (sm_w1 (sm_w1 (sm_w1 r53.2 72 26 ((r49.2.1 72 26) ||| ((1 : Int32) <<< ((m.1 72 25) &&& (31 : Int32))))) 83 ((m.1 72 25)).toNatClampNeg (-1 : Int32)) 72 25 ((r53.2.1 72 25) + (1 : Int32))))) else (none))) else (some ((0 : Int32), (sm_w1 r49.2 82 ((m.1 72 25)).toNatClampNeg (0 : Int32))))) else (none)) else (none)) else ((fX12_digit (9 : Int32) r49.2).bind fun r57 => if sm_ix (m.1 72 25) 14 then (if sm_ix (m.1 72 25) 14 then (if (0 : Int32) ≤ ((sm_w1 r57.2 82 ((m.1 72 25)).toNatClampNeg r57.1).1 82 ((m.1 72 25)).toNatClampNeg) then ((fX12_takes (103 : Int32) (sm_w1 r57.2 82 ((m.1 72 25)).toNatClampNeg r57.1)).bind fun r61 => if r61.1 = (0 : Int32) then (if sm_ix (m.1 72 25) 14 then (some ((1 : Int32), (sm_w1 (sm_w1 (sm_w1 r61.2 72 26 ((r57.2.1 72 26) ||| (0 : Int32))) 83 ((m.1 72 25)).toNatClampNeg (-1 : Int32)) 72 25 ((r61.2.1 72 25) + (1 : Int32))))) else (none)) else (if sm_ix (m.1 72 25) 14 then (some ((1 : Int32), (sm_w1 (sm_w1 (sm_w1 r61.2 72 26 ((r57.2.1 72 26) ||| ((1 : Int32) <<< ((m.1 72 25) &&& (31 : Int32))))) 83 ((m.1 72 25)).toNatClampNeg (-1 : Int32)) 72 25 ((r61.2.1 72 25) + (1 : Int32))))) else (none))) else (some ((0 : Int32), (sm_w1 r57.2 82 ((m.1 72 25)).toNatClampNeg r57.1)))) else (none)) else (none))) else (some ((0 : Int32), (sm_w1 r45.2 81 ((m.1 72 25)).toNatClampNeg r45.1)))) else (none)) else (none))) else (some ((0 : Int32), (sm_w1 r21.2 80 ((m.1 72 25)).toNatClampNeg r21.1)))) else (none)) else (none)) else (some ((0 : Int32), (sm_w1 r17.2 79 ((m.1 72 25)).toNatClampNeg r17.1)))) else (none)) else (none)))) else (none)) else (none)) else (some ((0 : Int32), S))) := by
  have hfu := fuE
  have kc1 : 0 ≤ (S.1 72 25).toInt ∧ (S.1 72 25).toInt ≤ 14 := hI.1 72 25
  have kc2 : 0 ≤ (S.1 72 22).toInt ∧ (S.1 72 22).toInt ≤ 80 := hI.1 72 22
  have kc3 : 0 ≤ (m.1 72 25).toInt ∧ (m.1 72 25).toInt ≤ 14 := hM.1 72 25
  have kc4 := L0
  have kc5 : (-1 : Int) ≤ (S.1 77 ((m.1 72 25)).toNatClampNeg).toInt ∧ (S.1 77 ((m.1 72 25)).toNatClampNeg).toInt ≤ 9 := hI.1 77 ((m.1 72 25)).toNatClampNeg
  refine s_le (fun kh6 => ?_) (fun kh6 => ?_)
  · have kc7 := L1
    have kc8 := L20
    refine s_bd (zX12_number (1 : Int32) (20 : Int32) S (show 1 ≤ (1 : Int32).toInt ∧ (1 : Int32).toInt ≤ 1 ∧ 20 ≤ (20 : Int32).toInt ∧ (20 : Int32).toInt ≤ 20 by omega) hI) (fun r11 kr9 => ?_)
    obtain ⟨kp10, ki11, kf12⟩ := kr9
    replace kp10 : ((-1 : Int) ≤ r11.1.toInt) ∧ (r11.1.toInt ≤ 20) ∧ ((S.1 72 22).toInt ≤ (r11.2.1 72 22).toInt) ∧ (r11.1.toInt < 0 ∨ 1 ≤ r11.1.toInt) := kp10
    have kc13 : 0 ≤ (r11.2.1 72 22).toInt ∧ (r11.2.1 72 22).toInt ≤ 80 := ki11.1 72 22
    have kc14 : (-1 : Int) ≤ (r11.2.1 76 ((m.1 72 25)).toNatClampNeg).toInt ∧ (r11.2.1 76 ((m.1 72 25)).toNatClampNeg).toInt ≤ 9 := ki11.1 76 ((m.1 72 25)).toNatClampNeg
    have kc15 : (r11.2.1 76 ((m.1 72 25)).toNatClampNeg).toInt = (S.1 76 ((m.1 72 25)).toNatClampNeg).toInt := congrArg Int32.toInt (kf12 76 ((m.1 72 25)).toNatClampNeg rfl)
    have kc16 : (-1 : Int) ≤ (S.1 76 ((m.1 72 25)).toNatClampNeg).toInt ∧ (S.1 76 ((m.1 72 25)).toNatClampNeg).toInt ≤ 9 := hI.1 76 ((m.1 72 25)).toNatClampNeg
    have kc17 : (-1 : Int) ≤ (r11.2.1 77 ((m.1 72 25)).toNatClampNeg).toInt ∧ (r11.2.1 77 ((m.1 72 25)).toNatClampNeg).toInt ≤ 9 := ki11.1 77 ((m.1 72 25)).toNatClampNeg
    have kc18 : (r11.2.1 77 ((m.1 72 25)).toNatClampNeg).toInt = (S.1 77 ((m.1 72 25)).toNatClampNeg).toInt := congrArg Int32.toInt (kf12 77 ((m.1 72 25)).toNatClampNeg rfl)
    have kc19 : (-1 : Int) ≤ (r11.2.1 78 ((m.1 72 25)).toNatClampNeg).toInt ∧ (r11.2.1 78 ((m.1 72 25)).toNatClampNeg).toInt ≤ 20 := ki11.1 78 ((m.1 72 25)).toNatClampNeg
    have kc20 : (r11.2.1 78 ((m.1 72 25)).toNatClampNeg).toInt = (S.1 78 ((m.1 72 25)).toNatClampNeg).toInt := congrArg Int32.toInt (kf12 78 ((m.1 72 25)).toNatClampNeg rfl)
    have kc21 : (-1 : Int) ≤ (S.1 78 ((m.1 72 25)).toNatClampNeg).toInt ∧ (S.1 78 ((m.1 72 25)).toNatClampNeg).toInt ≤ 20 := hI.1 78 ((m.1 72 25)).toNatClampNeg
    have kc22 : (-1 : Int) ≤ (r11.2.1 82 ((m.1 72 25)).toNatClampNeg).toInt ∧ (r11.2.1 82 ((m.1 72 25)).toNatClampNeg).toInt ≤ 9 := ki11.1 82 ((m.1 72 25)).toNatClampNeg
    have kc23 : (r11.2.1 82 ((m.1 72 25)).toNatClampNeg).toInt = (S.1 82 ((m.1 72 25)).toNatClampNeg).toInt := congrArg Int32.toInt (kf12 82 ((m.1 72 25)).toNatClampNeg rfl)
    have kc24 : (-1 : Int) ≤ (S.1 82 ((m.1 72 25)).toNatClampNeg).toInt ∧ (S.1 82 ((m.1 72 25)).toNatClampNeg).toInt ≤ 9 := hI.1 82 ((m.1 72 25)).toNatClampNeg
    have kc25 : 0 ≤ (r11.2.1 72 25).toInt ∧ (r11.2.1 72 25).toInt ≤ 14 := ki11.1 72 25
    have kc26 : (r11.2.1 72 25).toInt = (S.1 72 25).toInt := congrArg Int32.toInt (kf12 72 25 rfl)
    have kx27 : 0 ≤ ((m.1 72 25)).toInt ∧ ((m.1 72 25)).toInt < (14 : Int) := by omega
    refine s_ix kx27 ?_
    refine s_ix kx27 ?_
    have kc29 : 0 ≤ (r11.2.1 72 6).toInt ∧ (r11.2.1 72 6).toInt ≤ 14 := ki11.1 72 6
    have kc30 : (r11.2.1 72 6).toInt = (S.1 72 6).toInt := congrArg Int32.toInt (kf12 72 6 rfl)
    have kc31 : 0 ≤ (S.1 72 6).toInt ∧ (S.1 72 6).toInt ≤ 14 := hI.1 72 6
    have ki28 : zI (sm_w1 r11.2 78 ((m.1 72 25)).toNatClampNeg r11.1) := zI.w78 ki11 (show (-1 : Int) ≤ (r11.1).toInt ∧ (r11.1).toInt ≤ 20 by omega) (Or.inr (show (r11.2.1 72 25).toInt ≤ ((m.1 72 25)).toInt by omega)) (show 0 ≤ ((m.1 72 25)).toInt by omega)
    have kf32 : Fr wX12_readsHedge m r11.2 := Fr.trans hF kf12 rfl
    have kf33 : Fr wX12_readsHedge m (sm_w1 r11.2 78 ((m.1 72 25)).toNatClampNeg r11.1) := Fr.w kf32 rfl
    have kc34 : 0 ≤ ((sm_w1 r11.2 78 ((m.1 72 25)).toNatClampNeg r11.1).1 72 25).toInt ∧ ((sm_w1 r11.2 78 ((m.1 72 25)).toNatClampNeg r11.1).1 72 25).toInt ≤ 14 := ki28.1 72 25
    have kc35 : ((sm_w1 r11.2 78 ((m.1 72 25)).toNatClampNeg r11.1).1 72 25).toInt = (r11.2.1 72 25).toInt := congrArg Int32.toInt (r_cell (by decide))
    have kc36 : 0 ≤ ((sm_w1 r11.2 78 ((m.1 72 25)).toNatClampNeg r11.1).1 72 22).toInt ∧ ((sm_w1 r11.2 78 ((m.1 72 25)).toNatClampNeg r11.1).1 72 22).toInt ≤ 80 := ki28.1 72 22
    have kc37 : ((sm_w1 r11.2 78 ((m.1 72 25)).toNatClampNeg r11.1).1 72 22).toInt = (r11.2.1 72 22).toInt := congrArg Int32.toInt (r_cell (by decide))
    have kc38 : (-1 : Int) ≤ ((sm_w1 r11.2 78 ((m.1 72 25)).toNatClampNeg r11.1).1 76 ((m.1 72 25)).toNatClampNeg).toInt ∧ ((sm_w1 r11.2 78 ((m.1 72 25)).toNatClampNeg r11.1).1 76 ((m.1 72 25)).toNatClampNeg).toInt ≤ 9 := ki28.1 76 ((m.1 72 25)).toNatClampNeg
    have kc39 : ((sm_w1 r11.2 78 ((m.1 72 25)).toNatClampNeg r11.1).1 76 ((m.1 72 25)).toNatClampNeg).toInt = (r11.2.1 76 ((m.1 72 25)).toNatClampNeg).toInt := congrArg Int32.toInt (r_cell (by decide))
    have kc40 : (-1 : Int) ≤ ((sm_w1 r11.2 78 ((m.1 72 25)).toNatClampNeg r11.1).1 77 ((m.1 72 25)).toNatClampNeg).toInt ∧ ((sm_w1 r11.2 78 ((m.1 72 25)).toNatClampNeg r11.1).1 77 ((m.1 72 25)).toNatClampNeg).toInt ≤ 9 := ki28.1 77 ((m.1 72 25)).toNatClampNeg
    have kc41 : ((sm_w1 r11.2 78 ((m.1 72 25)).toNatClampNeg r11.1).1 77 ((m.1 72 25)).toNatClampNeg).toInt = (r11.2.1 77 ((m.1 72 25)).toNatClampNeg).toInt := congrArg Int32.toInt (r_cell (by decide))
    have kc42 : (-1 : Int) ≤ ((sm_w1 r11.2 78 ((m.1 72 25)).toNatClampNeg r11.1).1 78 ((m.1 72 25)).toNatClampNeg).toInt ∧ ((sm_w1 r11.2 78 ((m.1 72 25)).toNatClampNeg r11.1).1 78 ((m.1 72 25)).toNatClampNeg).toInt ≤ 20 := ki28.1 78 ((m.1 72 25)).toNatClampNeg
    have kc43 : ((sm_w1 r11.2 78 ((m.1 72 25)).toNatClampNeg r11.1).1 78 ((m.1 72 25)).toNatClampNeg).toInt = (r11.1).toInt := congrArg Int32.toInt r_hit
    exact zX12_readsHedge_c78 m (sm_w1 r11.2 78 ((m.1 72 25)).toNatClampNeg r11.1) hM ki28 kf33 (show 0 ≤ (m.1 72 25).toInt ∧ (m.1 72 25).toInt < 14 by omega) (show ((sm_w1 r11.2 78 ((m.1 72 25)).toNatClampNeg r11.1).1 72 25).toInt = (m.1 72 25).toInt by omega) (show (m.1 72 22).toInt ≤ ((sm_w1 r11.2 78 ((m.1 72 25)).toNatClampNeg r11.1).1 72 22).toInt by omega) (show ((sm_w1 r11.2 78 ((m.1 72 25)).toNatClampNeg r11.1).1 78 ((m.1 72 25)).toNatClampNeg).toInt < 0 ∨ 1 ≤ ((sm_w1 r11.2 78 ((m.1 72 25)).toNatClampNeg r11.1).1 78 ((m.1 72 25)).toNatClampNeg).toInt by omega) (show 0 ≤ ((sm_w1 r11.2 78 ((m.1 72 25)).toNatClampNeg r11.1).1 76 ((m.1 72 25)).toNatClampNeg).toInt by omega) (show 0 ≤ ((sm_w1 r11.2 78 ((m.1 72 25)).toNatClampNeg r11.1).1 77 ((m.1 72 25)).toNatClampNeg).toInt by omega)
  · have kc44 : 0 ≤ (m.1 72 22).toInt ∧ (m.1 72 22).toInt ≤ 80 := hM.1 72 22
    exact s_ret ⟨(show (0 ≤ (0 : Int32).toInt) ∧ ((0 : Int32).toInt ≤ 1) ∧ ((m.1 72 22).toInt ≤ (S.1 72 22).toInt) by omega), hI, hF⟩
theorem zX12_readsHedge_c76 (m S : sm_S) (hM : zI m) (hI : zI S) (hF : Fr wX12_readsHedge m S) (hk : 0 ≤ (m.1 72 25).toInt ∧ (m.1 72 25).toInt < 14) (hc0 : (S.1 72 25).toInt = (m.1 72 25).toInt) (hc1 : (m.1 72 22).toInt ≤ (S.1 72 22).toInt) : Sf (fun r => ((0 ≤ r.1.toInt) ∧ (r.1.toInt ≤ 1) ∧ ((m.1 72 22).toInt ≤ (r.2.1 72 22).toInt)) ∧ zI r.2 ∧ Fr wX12_readsHedge m r.2) (if (0 : Int32) ≤ (S.1 76 ((m.1 72 25)).toNatClampNeg) then (if sm_ix (m.1 72 25) 14 then ((fX12_cornerBut (S.1 76 ((m.1 72 25)).toNatClampNeg) S).bind fun r7 => if sm_ix (m.1 72 25) 14 then (if sm_ix (m.1 72 25) 14 then (if (0 : Int32) ≤ ((sm_w1 r7.2 77 ((m.1 72 25)).toNatClampNeg r7.1).1 77 ((m.1 72 25)).toNatClampNeg) then ((fX12_number (1 : Int32) (20 : Int32) (sm_w1 r7.2 77 ((m.1 72 25)).toNatClampNeg r7.1)).bind fun r11 => if sm_ix (m.1 72 25) 14 then (if sm_ix (m.1 72 25) 14 then (if ((sm_w1 r11.2 78 ((m.1 72 25)).toNatClampNeg r11.1).1 78 ((m.1 72 25)).toNatClampNeg) < (0 : Int32) then (some ((0 : Int32), (sm_w1 r11.2 78 ((m.1 72 25)).toNatClampNeg r11.1))) else ((fX12_takes (58 : Int32) (sm_w1 r11.2 78 ((m.1 72 25)).toNatClampNeg r11.1)).bind fun r15 => if r15.1 = (0 : Int32) then (some ((0 : Int32), r15.2)) else ((fX12_digit (5 : Int32) r15.2).bind fun r17 => if sm_ix (m.1 72 25) 14 then (if sm_ix (m.1 72 25) 14 then (if (0 : Int32) ≤ ((sm_w1 r17.2 79 ((m.1 72 25)).toNatClampNeg r17.1).1 79 ((m.1 72 25)).toNatClampNeg) then ((fX12_digit (5 : Int32) (sm_w1 r17.2 79 ((m.1 72 25)).toNatClampNeg r17.1)).bind fun r21 => if sm_ix (m.1 72 25) 14 then (if sm_ix (m.1 72 25) 14 then (if (0 : Int32) ≤ ((sm_w1 r21.2 80 ((m.1 72 25)).toNatClampNeg r21.1).1 80 ((m.1 72 25)).toNatClampNeg) then ((fX12_takes (119 : Int32) (sm_w1 r21.2 80 ((m.1 72 25)).toNatClampNeg r21.1)).bind fun r25 => if r25.1 = (0 : Int32) then (if sm_ix (m.1 72 25) 14 then (if sm_ix (m.1 72 25) 14 then (if (0 : Int32) ≤ ((sm_w1 r25.2 81 ((m.1 72 25)).toNatClampNeg (1 : Int32)).1 81 ((m.1 72 25)).toNatClampNeg) then ((fX12_takes (126 : Int32) (sm_w1 r25.2 81 ((m.1 72 25)).toNatClampNeg (1 : Int32))).bind fun r29 => if r29.1 = (0 : Int32) then (if sm_ix (m.1 72 25) 14 then (if sm_ix (m.1 72 25) 14 then (if (0 : Int32) ≤ ((sm_w1 r29.2 82 ((m.1 72 25)).toNatClampNeg (0 : Int32)).1 82 ((m.1 72 25)).toNatClampNeg) then ((fX12_takes (103 : Int32) (sm_w1 r29.2 82 ((m.1 72 25)).toNatClampNeg (0 : Int32))).bind fun r33 => if r33.1 = (0 : Int32) then (if sm_ix (m.1 72 25) 14 then (some ((1 : Int32), (sm_w1 (sm_w1 (sm_w1 r33.2 72 26 ((r29.2.1 72 26) ||| (0 : Int32))) 83 ((m.1 72 25)).toNatClampNeg (-1 : Int32)) 72 25 ((r33.2.1 72 25) + (1 : Int32))))) else (none)) else (if sm_ix (m.1 72 25) 14 then (some ((1 : Int32), (sm_w1 (sm_w1 (sm_w1 r33.2 72 26 ((r29.2.1 72 26) ||| ((1 : Int32) <<< ((m.1 72 25) &&& (31 : Int32))))) 83 ((m.1 72 25)).toNatClampNeg (-1 : Int32)) 72 25 ((r33.2.1 72 25) + (1 : Int32))))) else (none))) else (some ((0 : Int32), (sm_w1 r29.2 82 ((m.1 72 25)).toNatClampNeg (0 : Int32))))) else (none)) else (none)) else ((fX12_digit (9 : Int32) r29.2).bind fun r37 => if sm_ix (m.1 72 25) 14 then (if sm_ix (m.1 72 25) 14 then (if (0 : Int32) ≤ ((sm_w1 r37.2 82 ((m.1 72 25)).toNatClampNeg r37.1).1 82 ((m.1 72 25)).toNatClampNeg) then ((fX12_takes (103 : Int32) (sm_w1 r37.2 82 ((m.1 72 25)).toNatClampNeg r37.1)).bind fun r41 => if r41.1 = (0 : Int32) then (if sm_ix (m.1 72 25) 14 then (some ((1 : Int32), (sm_w1 (sm_w1 (sm_w1 r41.2 72 26 ((r37.2.1 72 26) ||| (0 : Int32))) 83 ((m.1 72 25)).toNatClampNeg (-1 : Int32)) 72 25 ((r41.2.1 72 25) + (1 : Int32))))) else (none)) else (if sm_ix (m.1 72 25) 14 then (some ((1 : Int32), (sm_w1 (sm_w1 (sm_w1 r41.2 72 26 ((r37.2.1 72 26) ||| ((1 : Int32) <<< ((m.1 72 25) &&& (31 : Int32))))) 83 ((m.1 72 25)).toNatClampNeg (-1 : Int32)) 72 25 ((r41.2.1 72 25) + (1 : Int32))))) else (none))) else (some ((0 : Int32), (sm_w1 r37.2 82 ((m.1 72 25)).toNatClampNeg r37.1)))) else (none)) else (none))) else (some ((0 : Int32), (sm_w1 r25.2 81 ((m.1 72 25)).toNatClampNeg (1 : Int32))))) else (none)) else (none)) else ((fX12_digit (9 : Int32) r25.2).bind fun r45 => if sm_ix (m.1 72 25) 14 then (if sm_ix (m.1 72 25) 14 then (if (0 : Int32) ≤ ((sm_w1 r45.2 81 ((m.1 72 25)).toNatClampNeg r45.1).1 81 ((m.1 72 25)).toNatClampNeg) then ((fX12_takes (126 : Int32) (sm_w1 r45.2 81 ((m.1 72 25)).toNatClampNeg r45.1)).bind fun r49 => if r49.1 = (0 : Int32) then (if sm_ix (m.1 72 25) 14 then (if sm_ix (m.1 72 25) 14 then (if (0 : Int32) ≤ ((sm_w1 r49.2 82 ((m.1 72 25)).toNatClampNeg (0 : Int32)).1 82 ((m.1 72 25)).toNatClampNeg) then ((fX12_takes (103 : Int32) (sm_w1 r49.2 82 ((m.1 72 25)).toNatClampNeg (0 : Int32))).bind fun r53 => if r53.1 = (0 : Int32) then (if sm_ix (m.1 72 25) 14 then (some ((1 : Int32), (sm_w1 (sm_w1 (sm_w1 r53.2 72 26 ((r49.2.1 72 26) ||| (0 : Int32))) 83 ((m.1 72 25)).toNatClampNeg (-1 : Int32)) 72 25 ((r53.2.1 72 25) + (1 : Int32))))) else (none)) else (if sm_ix (m.1 72 25) 14 then (some ((1 : Int32), (sm_w1 (sm_w1 (sm_w1 r53.2 72 26 ((r49.2.1 72 26) ||| ((1 : Int32) <<< ((m.1 72 25) &&& (31 : Int32))))) 83 ((m.1 72 25)).toNatClampNeg (-1 : Int32)) 72 25 ((r53.2.1 72 25) + (1 : Int32))))) else (none))) else (some ((0 : Int32), (sm_w1 r49.2 82 ((m.1 72 25)).toNatClampNeg (0 : Int32))))) else (none)) else (none)) else ((fX12_digit (9 : Int32) r49.2).bind fun r57 => if sm_ix (m.1 72 25) 14 then (if sm_ix (m.1 72 25) 14 then (if (0 : Int32) ≤ ((sm_w1 r57.2 82 ((m.1 72 25)).toNatClampNeg r57.1).1 82 ((m.1 72 25)).toNatClampNeg) then ((fX12_takes (103 : Int32) (sm_w1 r57.2 82 ((m.1 72 25)).toNatClampNeg r57.1)).bind fun r61 => if r61.1 = (0 : Int32) then (if sm_ix (m.1 72 25) 14 then (some ((1 : Int32), (sm_w1 (sm_w1 (sm_w1 r61.2 72 26 ((r57.2.1 72 26) ||| (0 : Int32))) 83 ((m.1 72 25)).toNatClampNeg (-1 : Int32)) 72 25 ((r61.2.1 72 25) + (1 : Int32))))) else (none)) else (if sm_ix (m.1 72 25) 14 then (some ((1 : Int32), (sm_w1 (sm_w1 (sm_w1 r61.2 72 26 ((r57.2.1 72 26) ||| ((1 : Int32) <<< ((m.1 72 25) &&& (31 : Int32))))) 83 ((m.1 72 25)).toNatClampNeg (-1 : Int32)) 72 25 ((r61.2.1 72 25) + (1 : Int32))))) else (none))) else (some ((0 : Int32), (sm_w1 r57.2 82 ((m.1 72 25)).toNatClampNeg r57.1)))) else (none)) else (none))) else (some ((0 : Int32), (sm_w1 r45.2 81 ((m.1 72 25)).toNatClampNeg r45.1)))) else (none)) else (none))) else (some ((0 : Int32), (sm_w1 r21.2 80 ((m.1 72 25)).toNatClampNeg r21.1)))) else (none)) else (none)) else (some ((0 : Int32), (sm_w1 r17.2 79 ((m.1 72 25)).toNatClampNeg r17.1)))) else (none)) else (none)))) else (none)) else (none)) else (some ((0 : Int32), (sm_w1 r7.2 77 ((m.1 72 25)).toNatClampNeg r7.1)))) else (none)) else (none)) else (none)) else (some ((0 : Int32), S))) := by
  have hfu := fuE
  have kc1 : 0 ≤ (S.1 72 25).toInt ∧ (S.1 72 25).toInt ≤ 14 := hI.1 72 25
  have kc2 : 0 ≤ (S.1 72 22).toInt ∧ (S.1 72 22).toInt ≤ 80 := hI.1 72 22
  have kc3 : 0 ≤ (m.1 72 25).toInt ∧ (m.1 72 25).toInt ≤ 14 := hM.1 72 25
  have kc4 := L0
  have kc5 : (-1 : Int) ≤ (S.1 76 ((m.1 72 25)).toNatClampNeg).toInt ∧ (S.1 76 ((m.1 72 25)).toNatClampNeg).toInt ≤ 9 := hI.1 76 ((m.1 72 25)).toNatClampNeg
  refine s_le (fun kh6 => ?_) (fun kh6 => ?_)
  · have kx7 : 0 ≤ ((m.1 72 25)).toInt ∧ ((m.1 72 25)).toInt < (14 : Int) := by omega
    refine s_ix kx7 ?_
    refine s_bd (zX12_cornerBut_w (S.1 76 ((m.1 72 25)).toNatClampNeg) S (show (-1 : Int) ≤ (S.1 76 ((m.1 72 25)).toNatClampNeg).toInt ∧ (S.1 76 ((m.1 72 25)).toNatClampNeg).toInt ≤ 9 by omega) hI) (fun r7 kr8 => ?_)
    obtain ⟨kp9, ki10, kf11⟩ := kr8
    replace kp9 : ((-1 : Int) ≤ r7.1.toInt) ∧ (r7.1.toInt ≤ 9) ∧ ((S.1 72 22).toInt ≤ (r7.2.1 72 22).toInt) := kp9
    have kc12 : 0 ≤ (r7.2.1 72 22).toInt ∧ (r7.2.1 72 22).toInt ≤ 80 := ki10.1 72 22
    have kc13 : (-1 : Int) ≤ (r7.2.1 76 ((m.1 72 25)).toNatClampNeg).toInt ∧ (r7.2.1 76 ((m.1 72 25)).toNatClampNeg).toInt ≤ 9 := ki10.1 76 ((m.1 72 25)).toNatClampNeg
    have kc14 : (r7.2.1 76 ((m.1 72 25)).toNatClampNeg).toInt = (S.1 76 ((m.1 72 25)).toNatClampNeg).toInt := congrArg Int32.toInt (kf11 76 ((m.1 72 25)).toNatClampNeg rfl)
    have kc15 : (-1 : Int) ≤ (r7.2.1 77 ((m.1 72 25)).toNatClampNeg).toInt ∧ (r7.2.1 77 ((m.1 72 25)).toNatClampNeg).toInt ≤ 9 := ki10.1 77 ((m.1 72 25)).toNatClampNeg
    have kc16 : (r7.2.1 77 ((m.1 72 25)).toNatClampNeg).toInt = (S.1 77 ((m.1 72 25)).toNatClampNeg).toInt := congrArg Int32.toInt (kf11 77 ((m.1 72 25)).toNatClampNeg rfl)
    have kc17 : (-1 : Int) ≤ (S.1 77 ((m.1 72 25)).toNatClampNeg).toInt ∧ (S.1 77 ((m.1 72 25)).toNatClampNeg).toInt ≤ 9 := hI.1 77 ((m.1 72 25)).toNatClampNeg
    have kc18 : (-1 : Int) ≤ (r7.2.1 78 ((m.1 72 25)).toNatClampNeg).toInt ∧ (r7.2.1 78 ((m.1 72 25)).toNatClampNeg).toInt ≤ 20 := ki10.1 78 ((m.1 72 25)).toNatClampNeg
    have kc19 : (r7.2.1 78 ((m.1 72 25)).toNatClampNeg).toInt = (S.1 78 ((m.1 72 25)).toNatClampNeg).toInt := congrArg Int32.toInt (kf11 78 ((m.1 72 25)).toNatClampNeg rfl)
    have kc20 : (-1 : Int) ≤ (S.1 78 ((m.1 72 25)).toNatClampNeg).toInt ∧ (S.1 78 ((m.1 72 25)).toNatClampNeg).toInt ≤ 20 := hI.1 78 ((m.1 72 25)).toNatClampNeg
    have kc21 : (-1 : Int) ≤ (r7.2.1 82 ((m.1 72 25)).toNatClampNeg).toInt ∧ (r7.2.1 82 ((m.1 72 25)).toNatClampNeg).toInt ≤ 9 := ki10.1 82 ((m.1 72 25)).toNatClampNeg
    have kc22 : (r7.2.1 82 ((m.1 72 25)).toNatClampNeg).toInt = (S.1 82 ((m.1 72 25)).toNatClampNeg).toInt := congrArg Int32.toInt (kf11 82 ((m.1 72 25)).toNatClampNeg rfl)
    have kc23 : (-1 : Int) ≤ (S.1 82 ((m.1 72 25)).toNatClampNeg).toInt ∧ (S.1 82 ((m.1 72 25)).toNatClampNeg).toInt ≤ 9 := hI.1 82 ((m.1 72 25)).toNatClampNeg
    have kc24 : 0 ≤ (r7.2.1 72 25).toInt ∧ (r7.2.1 72 25).toInt ≤ 14 := ki10.1 72 25
    have kc25 : (r7.2.1 72 25).toInt = (S.1 72 25).toInt := congrArg Int32.toInt (kf11 72 25 rfl)
    refine s_ix kx7 ?_
    refine s_ix kx7 ?_
    have kc27 : 0 ≤ (r7.2.1 72 6).toInt ∧ (r7.2.1 72 6).toInt ≤ 14 := ki10.1 72 6
    have kc28 : (r7.2.1 72 6).toInt = (S.1 72 6).toInt := congrArg Int32.toInt (kf11 72 6 rfl)
    have kc29 : 0 ≤ (S.1 72 6).toInt ∧ (S.1 72 6).toInt ≤ 14 := hI.1 72 6
    have ki26 : zI (sm_w1 r7.2 77 ((m.1 72 25)).toNatClampNeg r7.1) := zI.w77 ki10 (show (-1 : Int) ≤ (r7.1).toInt ∧ (r7.1).toInt ≤ 9 by omega) (Or.inr (show (r7.2.1 72 25).toInt ≤ ((m.1 72 25)).toInt by omega)) (show 0 ≤ ((m.1 72 25)).toInt by omega)
    have kf30 : Fr wX12_readsHedge m r7.2 := Fr.trans hF kf11 rfl
    have kf31 : Fr wX12_readsHedge m (sm_w1 r7.2 77 ((m.1 72 25)).toNatClampNeg r7.1) := Fr.w kf30 rfl
    have kc32 : 0 ≤ ((sm_w1 r7.2 77 ((m.1 72 25)).toNatClampNeg r7.1).1 72 25).toInt ∧ ((sm_w1 r7.2 77 ((m.1 72 25)).toNatClampNeg r7.1).1 72 25).toInt ≤ 14 := ki26.1 72 25
    have kc33 : ((sm_w1 r7.2 77 ((m.1 72 25)).toNatClampNeg r7.1).1 72 25).toInt = (r7.2.1 72 25).toInt := congrArg Int32.toInt (r_cell (by decide))
    have kc34 : 0 ≤ ((sm_w1 r7.2 77 ((m.1 72 25)).toNatClampNeg r7.1).1 72 22).toInt ∧ ((sm_w1 r7.2 77 ((m.1 72 25)).toNatClampNeg r7.1).1 72 22).toInt ≤ 80 := ki26.1 72 22
    have kc35 : ((sm_w1 r7.2 77 ((m.1 72 25)).toNatClampNeg r7.1).1 72 22).toInt = (r7.2.1 72 22).toInt := congrArg Int32.toInt (r_cell (by decide))
    have kc36 : (-1 : Int) ≤ ((sm_w1 r7.2 77 ((m.1 72 25)).toNatClampNeg r7.1).1 76 ((m.1 72 25)).toNatClampNeg).toInt ∧ ((sm_w1 r7.2 77 ((m.1 72 25)).toNatClampNeg r7.1).1 76 ((m.1 72 25)).toNatClampNeg).toInt ≤ 9 := ki26.1 76 ((m.1 72 25)).toNatClampNeg
    have kc37 : ((sm_w1 r7.2 77 ((m.1 72 25)).toNatClampNeg r7.1).1 76 ((m.1 72 25)).toNatClampNeg).toInt = (r7.2.1 76 ((m.1 72 25)).toNatClampNeg).toInt := congrArg Int32.toInt (r_cell (by decide))
    exact zX12_readsHedge_c77 m (sm_w1 r7.2 77 ((m.1 72 25)).toNatClampNeg r7.1) hM ki26 kf31 (show 0 ≤ (m.1 72 25).toInt ∧ (m.1 72 25).toInt < 14 by omega) (show ((sm_w1 r7.2 77 ((m.1 72 25)).toNatClampNeg r7.1).1 72 25).toInt = (m.1 72 25).toInt by omega) (show (m.1 72 22).toInt ≤ ((sm_w1 r7.2 77 ((m.1 72 25)).toNatClampNeg r7.1).1 72 22).toInt by omega) (show 0 ≤ ((sm_w1 r7.2 77 ((m.1 72 25)).toNatClampNeg r7.1).1 76 ((m.1 72 25)).toNatClampNeg).toInt by omega)
  · have kc38 : 0 ≤ (m.1 72 22).toInt ∧ (m.1 72 22).toInt ≤ 80 := hM.1 72 22
    exact s_ret ⟨(show (0 ≤ (0 : Int32).toInt) ∧ ((0 : Int32).toInt ≤ 1) ∧ ((m.1 72 22).toInt ≤ (S.1 72 22).toInt) by omega), hI, hF⟩
theorem zX12_readsHedge (m : sm_S) (hI : zI m) : Sf (fun r => ((0 ≤ r.1.toInt) ∧ (r.1.toInt ≤ 1) ∧ ((m.1 72 22).toInt ≤ (r.2.1 72 22).toInt)) ∧ zI r.2 ∧ Fr wX12_readsHedge m r.2) (fX12_readsHedge m) := by
  have hfu := fuE
  unfold fX12_readsHedge
  have kc1 : 0 ≤ (m.1 72 25).toInt ∧ (m.1 72 25).toInt ≤ 14 := hI.1 72 25
  have kc2 := L14
  refine s_eq (fun kh3 => ?_) (fun kh3 => ?_)
  · have kc4 := L0
    have kc5 : 0 ≤ (m.1 72 22).toInt ∧ (m.1 72 22).toInt ≤ 80 := hI.1 72 22
    exact s_ret ⟨(show (0 ≤ (0 : Int32).toInt) ∧ ((0 : Int32).toInt ≤ 1) ∧ ((m.1 72 22).toInt ≤ (m.1 72 22).toInt) by omega), hI, Fr.refl⟩
  · have kc6 := Ln1
    refine s_bd (zX12_cornerBut_w (-1 : Int32) m (show (-1 : Int) ≤ (-1 : Int32).toInt ∧ (-1 : Int32).toInt ≤ 9 by omega) hI) (fun r2 kr7 => ?_)
    obtain ⟨kp8, ki9, kf10⟩ := kr7
    replace kp8 : ((-1 : Int) ≤ r2.1.toInt) ∧ (r2.1.toInt ≤ 9) ∧ ((m.1 72 22).toInt ≤ (r2.2.1 72 22).toInt) := kp8
    have kc11 : 0 ≤ (r2.2.1 72 22).toInt ∧ (r2.2.1 72 22).toInt ≤ 80 := ki9.1 72 22
    have kc12 : 0 ≤ (m.1 72 22).toInt ∧ (m.1 72 22).toInt ≤ 80 := hI.1 72 22
    have kc13 : (-1 : Int) ≤ (r2.2.1 76 ((m.1 72 25)).toNatClampNeg).toInt ∧ (r2.2.1 76 ((m.1 72 25)).toNatClampNeg).toInt ≤ 9 := ki9.1 76 ((m.1 72 25)).toNatClampNeg
    have kc14 : (r2.2.1 76 ((m.1 72 25)).toNatClampNeg).toInt = (m.1 76 ((m.1 72 25)).toNatClampNeg).toInt := congrArg Int32.toInt (kf10 76 ((m.1 72 25)).toNatClampNeg rfl)
    have kc15 : (-1 : Int) ≤ (m.1 76 ((m.1 72 25)).toNatClampNeg).toInt ∧ (m.1 76 ((m.1 72 25)).toNatClampNeg).toInt ≤ 9 := hI.1 76 ((m.1 72 25)).toNatClampNeg
    have kc16 : (-1 : Int) ≤ (r2.2.1 77 ((m.1 72 25)).toNatClampNeg).toInt ∧ (r2.2.1 77 ((m.1 72 25)).toNatClampNeg).toInt ≤ 9 := ki9.1 77 ((m.1 72 25)).toNatClampNeg
    have kc17 : (r2.2.1 77 ((m.1 72 25)).toNatClampNeg).toInt = (m.1 77 ((m.1 72 25)).toNatClampNeg).toInt := congrArg Int32.toInt (kf10 77 ((m.1 72 25)).toNatClampNeg rfl)
    have kc18 : (-1 : Int) ≤ (m.1 77 ((m.1 72 25)).toNatClampNeg).toInt ∧ (m.1 77 ((m.1 72 25)).toNatClampNeg).toInt ≤ 9 := hI.1 77 ((m.1 72 25)).toNatClampNeg
    have kc19 : (-1 : Int) ≤ (r2.2.1 78 ((m.1 72 25)).toNatClampNeg).toInt ∧ (r2.2.1 78 ((m.1 72 25)).toNatClampNeg).toInt ≤ 20 := ki9.1 78 ((m.1 72 25)).toNatClampNeg
    have kc20 : (r2.2.1 78 ((m.1 72 25)).toNatClampNeg).toInt = (m.1 78 ((m.1 72 25)).toNatClampNeg).toInt := congrArg Int32.toInt (kf10 78 ((m.1 72 25)).toNatClampNeg rfl)
    have kc21 : (-1 : Int) ≤ (m.1 78 ((m.1 72 25)).toNatClampNeg).toInt ∧ (m.1 78 ((m.1 72 25)).toNatClampNeg).toInt ≤ 20 := hI.1 78 ((m.1 72 25)).toNatClampNeg
    have kc22 : (-1 : Int) ≤ (r2.2.1 82 ((m.1 72 25)).toNatClampNeg).toInt ∧ (r2.2.1 82 ((m.1 72 25)).toNatClampNeg).toInt ≤ 9 := ki9.1 82 ((m.1 72 25)).toNatClampNeg
    have kc23 : (r2.2.1 82 ((m.1 72 25)).toNatClampNeg).toInt = (m.1 82 ((m.1 72 25)).toNatClampNeg).toInt := congrArg Int32.toInt (kf10 82 ((m.1 72 25)).toNatClampNeg rfl)
    have kc24 : (-1 : Int) ≤ (m.1 82 ((m.1 72 25)).toNatClampNeg).toInt ∧ (m.1 82 ((m.1 72 25)).toNatClampNeg).toInt ≤ 9 := hI.1 82 ((m.1 72 25)).toNatClampNeg
    have kc25 : 0 ≤ (r2.2.1 72 25).toInt ∧ (r2.2.1 72 25).toInt ≤ 14 := ki9.1 72 25
    have kc26 : (r2.2.1 72 25).toInt = (m.1 72 25).toInt := congrArg Int32.toInt (kf10 72 25 rfl)
    have kx27 : 0 ≤ ((m.1 72 25)).toInt ∧ ((m.1 72 25)).toInt < (14 : Int) := by omega
    refine s_ix kx27 ?_
    refine s_ix kx27 ?_
    have kc29 : 0 ≤ (r2.2.1 72 6).toInt ∧ (r2.2.1 72 6).toInt ≤ 14 := ki9.1 72 6
    have kc30 : (r2.2.1 72 6).toInt = (m.1 72 6).toInt := congrArg Int32.toInt (kf10 72 6 rfl)
    have kc31 : 0 ≤ (m.1 72 6).toInt ∧ (m.1 72 6).toInt ≤ 14 := hI.1 72 6
    have ki28 : zI (sm_w1 r2.2 76 ((m.1 72 25)).toNatClampNeg r2.1) := zI.w76 ki9 (show (-1 : Int) ≤ (r2.1).toInt ∧ (r2.1).toInt ≤ 9 by omega) (Or.inr (show (r2.2.1 72 25).toInt ≤ ((m.1 72 25)).toInt by omega)) (show 0 ≤ ((m.1 72 25)).toInt by omega)
    have kf32 : Fr wX12_readsHedge m r2.2 := Fr.trans Fr.refl kf10 rfl
    have kf33 : Fr wX12_readsHedge m (sm_w1 r2.2 76 ((m.1 72 25)).toNatClampNeg r2.1) := Fr.w kf32 rfl
    have kc34 : 0 ≤ ((sm_w1 r2.2 76 ((m.1 72 25)).toNatClampNeg r2.1).1 72 25).toInt ∧ ((sm_w1 r2.2 76 ((m.1 72 25)).toNatClampNeg r2.1).1 72 25).toInt ≤ 14 := ki28.1 72 25
    have kc35 : ((sm_w1 r2.2 76 ((m.1 72 25)).toNatClampNeg r2.1).1 72 25).toInt = (r2.2.1 72 25).toInt := congrArg Int32.toInt (r_cell (by decide))
    have kc36 : 0 ≤ ((sm_w1 r2.2 76 ((m.1 72 25)).toNatClampNeg r2.1).1 72 22).toInt ∧ ((sm_w1 r2.2 76 ((m.1 72 25)).toNatClampNeg r2.1).1 72 22).toInt ≤ 80 := ki28.1 72 22
    have kc37 : ((sm_w1 r2.2 76 ((m.1 72 25)).toNatClampNeg r2.1).1 72 22).toInt = (r2.2.1 72 22).toInt := congrArg Int32.toInt (r_cell (by decide))
    exact zX12_readsHedge_c76 m (sm_w1 r2.2 76 ((m.1 72 25)).toNatClampNeg r2.1) hI ki28 kf33 (show 0 ≤ (m.1 72 25).toInt ∧ (m.1 72 25).toInt < 14 by omega) (show ((sm_w1 r2.2 76 ((m.1 72 25)).toNatClampNeg r2.1).1 72 25).toInt = (m.1 72 25).toInt by omega) (show (m.1 72 22).toInt ≤ ((sm_w1 r2.2 76 ((m.1 72 25)).toNatClampNeg r2.1).1 72 22).toInt by omega)
