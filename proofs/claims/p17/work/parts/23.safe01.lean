theorem zX8_append_14 (m0 : sm_S) : ∀ (n : Nat) (v1 : Int32) (v2 : Int32) (m : sm_S), ((-8 : Int) ≤ v2.toInt ∧ v2.toInt ≤ 24 ∧ v2.toInt + 8 < (n : Int) ∧ 8 * (m.1 1 1).toInt + v2.toInt ≤ 632 ∧ 8 * (m.1 1 1).toInt + v2.toInt = 8 * (m0.1 1 1).toInt + 24 ∧ (m0.1 1 1).toInt ≤ 76) → zI m → Fr wX8_append m0 m → Sf (fun r => ((0 ≤ r.1.toInt) ∧ (r.1.toInt ≤ 1) ∧ ((r.1.toInt = 1 ∧ (r.2.1 1 1).toInt = (m0.1 1 1).toInt + 4 ∧ (m0.1 1 1).toInt ≤ 76) ∨ (r.1.toInt = 0 ∧ (r.2.1 1 1).toInt = (m0.1 1 1).toInt ∧ 76 < (m0.1 1 1).toInt))) ∧ zI r.2 ∧ Fr wX8_append m0 r.2) (fX8_append_14 n v1 v2 m) := by
  intro n
  induction n with
  | zero =>
    intro v1 v2 m hp hI hF
    have kc1 : 0 ≤ (m.1 1 1).toInt ∧ (m.1 1 1).toInt ≤ 80 := hI.1 1 1
    exfalso
    omega
  | succ n ih =>
    intro v1 v2 m hp hI hF
    have hnn : ((n + 1 : Nat) : Int) = (n : Int) + 1 := by omega
    have hfu := fuE
    have kc1 : 0 ≤ (m.1 1 1).toInt ∧ (m.1 1 1).toInt ≤ 80 := hI.1 1 1
    unfold fX8_append_14
    simp only [a_m1, a_m8]
    have kc2 := L0
    refine s_lt (fun kh3 => ?_) (fun kh3 => ?_)
    · have kc4 := L1
      exact s_ret ⟨(show (0 ≤ (1 : Int32).toInt) ∧ ((1 : Int32).toInt ≤ 1) ∧ (((1 : Int32).toInt = 1 ∧ (m.1 1 1).toInt = (m0.1 1 1).toInt + 4 ∧ (m0.1 1 1).toInt ≤ 76) ∨ ((1 : Int32).toInt = 0 ∧ (m.1 1 1).toInt = (m0.1 1 1).toInt ∧ 76 < (m0.1 1 1).toInt)) by omega), hI, hF⟩
    · have kx5 : 0 ≤ ((m.1 1 1)).toInt ∧ ((m.1 1 1)).toInt < (80 : Int) := by omega
      refine s_ix kx5 ?_
      have kc6 : (v2 - (8 : Int32)).toInt = (v2).toInt - 8 := a_subl L8 (by omega) (by omega)
      have kc7 : 0 ≤ (vp_nar .char (((((v1 >>> (v2 &&& (31 : Int32))) &&& (255 : Int32))).toUInt32 % 65536)).toInt32).toInt ∧ (vp_nar .char (((((v1 >>> (v2 &&& (31 : Int32))) &&& (255 : Int32))).toUInt32 % 65536)).toInt32).toInt ≤ 65535 := a_char _
      have ki8 : zI (sm_w1 m 2 ((m.1 1 1)).toNatClampNeg (vp_nar .char (((((v1 >>> (v2 &&& (31 : Int32))) &&& (255 : Int32))).toUInt32 % 65536)).toInt32)) := zI.w hI rfl (show 0 ≤ ((vp_nar .char (((((v1 >>> (v2 &&& (31 : Int32))) &&& (255 : Int32))).toUInt32 % 65536)).toInt32)).toInt ∧ ((vp_nar .char (((((v1 >>> (v2 &&& (31 : Int32))) &&& (255 : Int32))).toUInt32 % 65536)).toInt32)).toInt ≤ 65535 by omega)
      have kc9 : ((m.1 1 1) + (1 : Int32)).toInt = ((m.1 1 1)).toInt + 1 := a_addl L1 (by omega) (by omega)
      have ki10 : zI (sm_w1 (sm_w1 m 2 ((m.1 1 1)).toNatClampNeg (vp_nar .char (((((v1 >>> (v2 &&& (31 : Int32))) &&& (255 : Int32))).toUInt32 % 65536)).toInt32)) 1 1 ((m.1 1 1) + (1 : Int32))) := zI.w ki8 rfl (show 0 ≤ (((m.1 1 1) + (1 : Int32))).toInt ∧ (((m.1 1 1) + (1 : Int32))).toInt ≤ 80 by omega)
      have kc11 : 0 ≤ ((sm_w1 (sm_w1 m 2 ((m.1 1 1)).toNatClampNeg (vp_nar .char (((((v1 >>> (v2 &&& (31 : Int32))) &&& (255 : Int32))).toUInt32 % 65536)).toInt32)) 1 1 ((m.1 1 1) + (1 : Int32))).1 1 1).toInt ∧ ((sm_w1 (sm_w1 m 2 ((m.1 1 1)).toNatClampNeg (vp_nar .char (((((v1 >>> (v2 &&& (31 : Int32))) &&& (255 : Int32))).toUInt32 % 65536)).toInt32)) 1 1 ((m.1 1 1) + (1 : Int32))).1 1 1).toInt ≤ 80 := ki10.1 1 1
      have kc12 : ((sm_w1 (sm_w1 m 2 ((m.1 1 1)).toNatClampNeg (vp_nar .char (((((v1 >>> (v2 &&& (31 : Int32))) &&& (255 : Int32))).toUInt32 % 65536)).toInt32)) 1 1 ((m.1 1 1) + (1 : Int32))).1 1 1).toInt = (((m.1 1 1) + (1 : Int32))).toInt := rfl
      have kf13 : Fr wX8_append m0 (sm_w1 m 2 ((m.1 1 1)).toNatClampNeg (vp_nar .char (((((v1 >>> (v2 &&& (31 : Int32))) &&& (255 : Int32))).toUInt32 % 65536)).toInt32)) := Fr.w hF rfl
      have kf14 : Fr wX8_append m0 (sm_w1 (sm_w1 m 2 ((m.1 1 1)).toNatClampNeg (vp_nar .char (((((v1 >>> (v2 &&& (31 : Int32))) &&& (255 : Int32))).toUInt32 % 65536)).toInt32)) 1 1 ((m.1 1 1) + (1 : Int32))) := Fr.w kf13 rfl
      exact ih v1 (v2 - (8 : Int32)) (sm_w1 (sm_w1 m 2 ((m.1 1 1)).toNatClampNeg (vp_nar .char (((((v1 >>> (v2 &&& (31 : Int32))) &&& (255 : Int32))).toUInt32 % 65536)).toInt32)) 1 1 ((m.1 1 1) + (1 : Int32))) (show (-8 : Int) ≤ (v2 - (8 : Int32)).toInt ∧ (v2 - (8 : Int32)).toInt ≤ 24 ∧ (v2 - (8 : Int32)).toInt + 8 < (n : Int) ∧ 8 * ((sm_w1 (sm_w1 m 2 ((m.1 1 1)).toNatClampNeg (vp_nar .char (((((v1 >>> (v2 &&& (31 : Int32))) &&& (255 : Int32))).toUInt32 % 65536)).toInt32)) 1 1 ((m.1 1 1) + (1 : Int32))).1 1 1).toInt + (v2 - (8 : Int32)).toInt ≤ 632 ∧ 8 * ((sm_w1 (sm_w1 m 2 ((m.1 1 1)).toNatClampNeg (vp_nar .char (((((v1 >>> (v2 &&& (31 : Int32))) &&& (255 : Int32))).toUInt32 % 65536)).toInt32)) 1 1 ((m.1 1 1) + (1 : Int32))).1 1 1).toInt + (v2 - (8 : Int32)).toInt = 8 * (m0.1 1 1).toInt + 24 ∧ (m0.1 1 1).toInt ≤ 76 by omega) ki10 kf14
theorem zX8_append (x1 : Int32) (m : sm_S) (hI : zI m) : Sf (fun r => ((0 ≤ r.1.toInt) ∧ (r.1.toInt ≤ 1) ∧ ((r.1.toInt = 1 ∧ (r.2.1 1 1).toInt = (m.1 1 1).toInt + 4 ∧ (m.1 1 1).toInt ≤ 76) ∨ (r.1.toInt = 0 ∧ (r.2.1 1 1).toInt = (m.1 1 1).toInt ∧ 76 < (m.1 1 1).toInt))) ∧ zI r.2 ∧ Fr wX8_append m r.2) (fX8_append x1 m) := by
  have hfu := fuE
  unfold fX8_append
  have kc1 : 0 ≤ (m.1 1 1).toInt ∧ (m.1 1 1).toInt ≤ 80 := hI.1 1 1
  have kc2 := L76
  refine s_le (fun kh3 => ?_) (fun kh3 => ?_)
  · have kc4 := L24
    exact zX8_append_14 m sm_fu x1 (24 : Int32) m (show (-8 : Int) ≤ (24 : Int32).toInt ∧ (24 : Int32).toInt ≤ 24 ∧ (24 : Int32).toInt + 8 < (sm_fu : Int) ∧ 8 * (m.1 1 1).toInt + (24 : Int32).toInt ≤ 632 ∧ 8 * (m.1 1 1).toInt + (24 : Int32).toInt = 8 * (m.1 1 1).toInt + 24 ∧ (m.1 1 1).toInt ≤ 76 by omega) hI Fr.refl
  · have kc5 := L0
    exact s_ret ⟨(show (0 ≤ (0 : Int32).toInt) ∧ ((0 : Int32).toInt ≤ 1) ∧ (((0 : Int32).toInt = 1 ∧ (m.1 1 1).toInt = (m.1 1 1).toInt + 4 ∧ (m.1 1 1).toInt ≤ 76) ∨ ((0 : Int32).toInt = 0 ∧ (m.1 1 1).toInt = (m.1 1 1).toInt ∧ 76 < (m.1 1 1).toInt)) by omega), hI, Fr.refl⟩
theorem zX11_sign (x1 : Int32) (m : sm_S) (hI : zI m) : Sf (fun r => (((-1 : Int) ≤ r.1.toInt) ∧ (r.1.toInt ≤ 80) ∧ ((r.1.toInt = -1 ∧ (r.2.1 1 1).toInt = (m.1 1 1).toInt ∧ 76 < (m.1 1 1).toInt) ∨ (r.1.toInt = (m.1 1 1).toInt + 4 ∧ (r.2.1 1 1).toInt = (m.1 1 1).toInt + 4 ∧ (m.1 1 1).toInt ≤ 76))) ∧ zI r.2 ∧ Fr wX11_sign m r.2) (fX11_sign x1 m) := by
  have hfu := fuE
  unfold fX11_sign
  refine s_bd (zX8_append x1 m hI) (fun r2 kr1 => ?_)
  obtain ⟨kp2, ki3, kf4⟩ := kr1
  replace kp2 : (0 ≤ r2.1.toInt) ∧ (r2.1.toInt ≤ 1) ∧ ((r2.1.toInt = 1 ∧ (r2.2.1 1 1).toInt = (m.1 1 1).toInt + 4 ∧ (m.1 1 1).toInt ≤ 76) ∨ (r2.1.toInt = 0 ∧ (r2.2.1 1 1).toInt = (m.1 1 1).toInt ∧ 76 < (m.1 1 1).toInt)) := kp2
  have kc5 : 0 ≤ (r2.2.1 1 1).toInt ∧ (r2.2.1 1 1).toInt ≤ 80 := ki3.1 1 1
  have kc6 : 0 ≤ (m.1 1 1).toInt ∧ (m.1 1 1).toInt ≤ 80 := hI.1 1 1
  have kc7 := L0
  refine s_eq (fun kh8 => ?_) (fun kh8 => ?_)
  · have kc9 := Ln1
    have kf10 : Fr wX11_sign m r2.2 := Fr.trans Fr.refl kf4 rfl
    exact s_ret ⟨(show ((-1 : Int) ≤ (-1 : Int32).toInt) ∧ ((-1 : Int32).toInt ≤ 80) ∧ (((-1 : Int32).toInt = -1 ∧ (r2.2.1 1 1).toInt = (m.1 1 1).toInt ∧ 76 < (m.1 1 1).toInt) ∨ ((-1 : Int32).toInt = (m.1 1 1).toInt + 4 ∧ (r2.2.1 1 1).toInt = (m.1 1 1).toInt + 4 ∧ (m.1 1 1).toInt ≤ 76)) by omega), ki3, kf10⟩
  · have kf11 : Fr wX11_sign m r2.2 := Fr.trans Fr.refl kf4 rfl
    exact s_ret ⟨(show ((-1 : Int) ≤ (r2.2.1 1 1).toInt) ∧ ((r2.2.1 1 1).toInt ≤ 80) ∧ (((r2.2.1 1 1).toInt = -1 ∧ (r2.2.1 1 1).toInt = (m.1 1 1).toInt ∧ 76 < (m.1 1 1).toInt) ∨ ((r2.2.1 1 1).toInt = (m.1 1 1).toInt + 4 ∧ (r2.2.1 1 1).toInt = (m.1 1 1).toInt + 4 ∧ (m.1 1 1).toInt ≤ 76)) by omega), ki3, kf11⟩
theorem zX11_end (x1 : Int32) (m : sm_S) (hI : zI m) : Sf (fun r => ((0 ≤ r.1.toInt) ∧ (r.1.toInt ≤ 1) ∧ ((r.1.toInt = 0 ∧ (r.2.1 1 1).toInt = (m.1 1 1).toInt ∧ (x1.toInt < 0 ∨ (m.1 1 1).toInt < x1.toInt)) ∨ (r.1.toInt = 1 ∧ 0 ≤ x1.toInt ∧ x1.toInt ≤ (m.1 1 1).toInt ∧ (r.2.1 1 1).toInt = x1.toInt))) ∧ zI r.2 ∧ Fr wX11_end m r.2) (fX11_end x1 m) := by
  have hfu := fuE
  unfold fX11_end
  have kc1 := L0
  refine s_lt (fun kh2 => ?_) (fun kh2 => ?_)
  · have kc3 : 0 ≤ (m.1 1 1).toInt ∧ (m.1 1 1).toInt ≤ 80 := hI.1 1 1
    exact s_ret ⟨(show (0 ≤ (0 : Int32).toInt) ∧ ((0 : Int32).toInt ≤ 1) ∧ (((0 : Int32).toInt = 0 ∧ (m.1 1 1).toInt = (m.1 1 1).toInt ∧ (x1.toInt < 0 ∨ (m.1 1 1).toInt < x1.toInt)) ∨ ((0 : Int32).toInt = 1 ∧ 0 ≤ x1.toInt ∧ x1.toInt ≤ (m.1 1 1).toInt ∧ (m.1 1 1).toInt = x1.toInt)) by omega), hI, Fr.refl⟩
  · have kc4 : 0 ≤ (m.1 1 1).toInt ∧ (m.1 1 1).toInt ≤ 80 := hI.1 1 1
    refine s_le (fun kh5 => ?_) (fun kh5 => ?_)
    · have kc6 := L1
      have ki7 : zI (sm_w1 m 1 1 x1) := zI.w hI rfl (show 0 ≤ (x1).toInt ∧ (x1).toInt ≤ 80 by omega)
      have kc8 : 0 ≤ ((sm_w1 m 1 1 x1).1 1 1).toInt ∧ ((sm_w1 m 1 1 x1).1 1 1).toInt ≤ 80 := ki7.1 1 1
      have kc9 : ((sm_w1 m 1 1 x1).1 1 1).toInt = (x1).toInt := rfl
      have kf10 : Fr wX11_end m (sm_w1 m 1 1 x1) := Fr.w Fr.refl rfl
      exact s_ret ⟨(show (0 ≤ (1 : Int32).toInt) ∧ ((1 : Int32).toInt ≤ 1) ∧ (((1 : Int32).toInt = 0 ∧ ((sm_w1 m 1 1 x1).1 1 1).toInt = (m.1 1 1).toInt ∧ (x1.toInt < 0 ∨ (m.1 1 1).toInt < x1.toInt)) ∨ ((1 : Int32).toInt = 1 ∧ 0 ≤ x1.toInt ∧ x1.toInt ≤ (m.1 1 1).toInt ∧ ((sm_w1 m 1 1 x1).1 1 1).toInt = x1.toInt)) by omega), ki7, kf10⟩
    · exact s_ret ⟨(show (0 ≤ (0 : Int32).toInt) ∧ ((0 : Int32).toInt ≤ 1) ∧ (((0 : Int32).toInt = 0 ∧ (m.1 1 1).toInt = (m.1 1 1).toInt ∧ (x1.toInt < 0 ∨ (m.1 1 1).toInt < x1.toInt)) ∨ ((0 : Int32).toInt = 1 ∧ 0 ≤ x1.toInt ∧ x1.toInt ≤ (m.1 1 1).toInt ∧ (m.1 1 1).toInt = x1.toInt)) by omega), hI, Fr.refl⟩
theorem zX8_signAt (m : sm_S) (hI : zI m) : Sf (fun r => ((-1 : Int) ≤ r.toInt) ∧ (r.toInt ≤ 65535) ∧ (r.toInt = -1 ∨ (m.1 1 2).toInt < 80)) (fX8_signAt m) := by
  have hfu := fuE
  unfold fX8_signAt
  have kc1 : 0 ≤ (m.1 1 3).toInt ∧ (m.1 1 3).toInt ≤ 76 := hI.1 1 3
  have kc2 : 0 ≤ (m.1 1 2).toInt ∧ (m.1 1 2).toInt ≤ 80 := hI.1 1 2
  refine s_le (fun kh3 => ?_) (fun kh3 => ?_)
  · have kc4 := Ln1
    exact s_ret (show ((-1 : Int) ≤ (-1 : Int32).toInt) ∧ ((-1 : Int32).toInt ≤ 65535) ∧ ((-1 : Int32).toInt = -1 ∨ (m.1 1 2).toInt < 80) by omega)
  · have kc5 := L80
    refine s_le (fun kh6 => ?_) (fun kh6 => ?_)
    · omega
    · have kx7 : 0 ≤ ((m.1 1 2)).toInt ∧ ((m.1 1 2)).toInt < (80 : Int) := by omega
      refine s_ix kx7 ?_
      have kc8 : 0 ≤ (m.1 2 ((m.1 1 2)).toNatClampNeg).toInt ∧ (m.1 2 ((m.1 1 2)).toNatClampNeg).toInt ≤ 65535 := hI.1 2 ((m.1 1 2)).toNatClampNeg
      exact s_ret (show ((-1 : Int) ≤ (m.1 2 ((m.1 1 2)).toNatClampNeg).toInt) ∧ ((m.1 2 ((m.1 1 2)).toNatClampNeg).toInt ≤ 65535) ∧ ((m.1 2 ((m.1 1 2)).toNatClampNeg).toInt = -1 ∨ (m.1 1 2).toInt < 80) by omega)
theorem zX8_cornerLetter (x1 : Int32) (m : sm_S) (hp : (-1 : Int) ≤ x1.toInt ∧ x1.toInt ≤ 9) (hI : zI m) : Sf (fun r => (((-1 : Int) ≤ r.1.toInt) ∧ (r.1.toInt ≤ 9)) ∧ zI r.2 ∧ Fr wX8_cornerLetter m r.2) (fX8_cornerLetter x1 m) := by
  have hfu := fuE
  unfold fX8_cornerLetter
  refine s_bd (zX8_signAt m hI) (fun r2 kr1 => ?_)
  replace kr1 : ((-1 : Int) ≤ r2.toInt) ∧ (r2.toInt ≤ 65535) ∧ (r2.toInt = -1 ∨ (m.1 1 2).toInt < 80) := kr1
  have kc2 : 0 ≤ (m.1 1 2).toInt ∧ (m.1 1 2).toInt ≤ 80 := hI.1 1 2
  have kc3 : (r2 - (97 : Int32)).toInt = (r2).toInt - 97 := a_subl L97 (by omega) (by omega)
  have kc4 := L0
  refine s_lt (fun kh5 => ?_) (fun kh5 => ?_)
  · have kc6 := Ln1
    exact s_ret ⟨(show ((-1 : Int) ≤ (-1 : Int32).toInt) ∧ ((-1 : Int32).toInt ≤ 9) by omega), hI, Fr.refl⟩
  · have kc7 : 0 ≤ (m.1 1 4).toInt ∧ (m.1 1 4).toInt ≤ 10 := hI.1 1 4
    refine s_le (fun kh8 => ?_) (fun kh8 => ?_)
    · have kc9 := Ln1
      exact s_ret ⟨(show ((-1 : Int) ≤ (-1 : Int32).toInt) ∧ ((-1 : Int32).toInt ≤ 9) by omega), hI, Fr.refl⟩
    · refine s_eq (fun kh10 => ?_) (fun kh10 => ?_)
      · have kc11 := Ln1
        exact s_ret ⟨(show ((-1 : Int) ≤ (-1 : Int32).toInt) ∧ ((-1 : Int32).toInt ≤ 9) by omega), hI, Fr.refl⟩
      · have kc12 : ((m.1 1 2) + (1 : Int32)).toInt = ((m.1 1 2)).toInt + 1 := a_addl L1 (by omega) (by omega)
        have ki13 : zI (sm_w1 m 1 2 ((m.1 1 2) + (1 : Int32))) := zI.w hI rfl (show 0 ≤ (((m.1 1 2) + (1 : Int32))).toInt ∧ (((m.1 1 2) + (1 : Int32))).toInt ≤ 80 by omega)
        have kf14 : Fr wX8_cornerLetter m (sm_w1 m 1 2 ((m.1 1 2) + (1 : Int32))) := Fr.w Fr.refl rfl
        exact s_ret ⟨(show ((-1 : Int) ≤ (r2 - (97 : Int32)).toInt) ∧ ((r2 - (97 : Int32)).toInt ≤ 9) by omega), ki13, kf14⟩
theorem zX8_digit (x1 : Int32) (m : sm_S) (hp : 5 ≤ x1.toInt ∧ x1.toInt ≤ 9) (hI : zI m) : Sf (fun r => (((-1 : Int) ≤ r.1.toInt) ∧ (r.1.toInt ≤ 9) ∧ ((r.1.toInt < 0 ∧ (r.2.1 1 2).toInt = (m.1 1 2).toInt) ∨ (0 ≤ r.1.toInt ∧ (m.1 1 2).toInt < 80 ∧ (r.2.1 1 2).toInt = (m.1 1 2).toInt + 1))) ∧ zI r.2 ∧ Fr wX8_digit m r.2) (fX8_digit x1 m) := by
  have hfu := fuE
  unfold fX8_digit
  refine s_bd (zX8_signAt m hI) (fun r2 kr1 => ?_)
  replace kr1 : ((-1 : Int) ≤ r2.toInt) ∧ (r2.toInt ≤ 65535) ∧ (r2.toInt = -1 ∨ (m.1 1 2).toInt < 80) := kr1
  have kc2 : 0 ≤ (m.1 1 2).toInt ∧ (m.1 1 2).toInt ≤ 80 := hI.1 1 2
  have kc3 : (r2 - (48 : Int32)).toInt = (r2).toInt - 48 := a_subl L48 (by omega) (by omega)
  have kc4 := L0
  refine s_lt (fun kh5 => ?_) (fun kh5 => ?_)
  · have kc6 := Ln1
    exact s_ret ⟨(show ((-1 : Int) ≤ (-1 : Int32).toInt) ∧ ((-1 : Int32).toInt ≤ 9) ∧ (((-1 : Int32).toInt < 0 ∧ (m.1 1 2).toInt = (m.1 1 2).toInt) ∨ (0 ≤ (-1 : Int32).toInt ∧ (m.1 1 2).toInt < 80 ∧ (m.1 1 2).toInt = (m.1 1 2).toInt + 1)) by omega), hI, Fr.refl⟩
  · refine s_le (fun kh7 => ?_) (fun kh7 => ?_)
    · have kc8 : ((m.1 1 2) + (1 : Int32)).toInt = ((m.1 1 2)).toInt + 1 := a_addl L1 (by omega) (by omega)
      have ki9 : zI (sm_w1 m 1 2 ((m.1 1 2) + (1 : Int32))) := zI.w hI rfl (show 0 ≤ (((m.1 1 2) + (1 : Int32))).toInt ∧ (((m.1 1 2) + (1 : Int32))).toInt ≤ 80 by omega)
      have kc10 : 0 ≤ ((sm_w1 m 1 2 ((m.1 1 2) + (1 : Int32))).1 1 2).toInt ∧ ((sm_w1 m 1 2 ((m.1 1 2) + (1 : Int32))).1 1 2).toInt ≤ 80 := ki9.1 1 2
      have kc11 : ((sm_w1 m 1 2 ((m.1 1 2) + (1 : Int32))).1 1 2).toInt = (((m.1 1 2) + (1 : Int32))).toInt := rfl
      have kf12 : Fr wX8_digit m (sm_w1 m 1 2 ((m.1 1 2) + (1 : Int32))) := Fr.w Fr.refl rfl
      exact s_ret ⟨(show ((-1 : Int) ≤ (r2 - (48 : Int32)).toInt) ∧ ((r2 - (48 : Int32)).toInt ≤ 9) ∧ (((r2 - (48 : Int32)).toInt < 0 ∧ ((sm_w1 m 1 2 ((m.1 1 2) + (1 : Int32))).1 1 2).toInt = (m.1 1 2).toInt) ∨ (0 ≤ (r2 - (48 : Int32)).toInt ∧ (m.1 1 2).toInt < 80 ∧ ((sm_w1 m 1 2 ((m.1 1 2) + (1 : Int32))).1 1 2).toInt = (m.1 1 2).toInt + 1)) by omega), ki9, kf12⟩
    · have kc13 := Ln1
      exact s_ret ⟨(show ((-1 : Int) ≤ (-1 : Int32).toInt) ∧ ((-1 : Int32).toInt ≤ 9) ∧ (((-1 : Int32).toInt < 0 ∧ (m.1 1 2).toInt = (m.1 1 2).toInt) ∨ (0 ≤ (-1 : Int32).toInt ∧ (m.1 1 2).toInt < 80 ∧ (m.1 1 2).toInt = (m.1 1 2).toInt + 1)) by omega), hI, Fr.refl⟩
theorem zX8_longDigits (m : sm_S) (hI : zI m) : Sf (fun r => (((-1 : Int) ≤ r.1.toInt) ∧ (r.1.toInt ≤ 20)) ∧ zI r.2 ∧ Fr wX8_longDigits m r.2) (fX8_longDigits m) := by
  have hfu := fuE
  unfold fX8_longDigits
  have kc1 := L9
  refine s_bd (zX8_digit (9 : Int32) m (show 5 ≤ (9 : Int32).toInt ∧ (9 : Int32).toInt ≤ 9 by omega) hI) (fun r2 kr2 => ?_)
  obtain ⟨kp3, ki4, kf5⟩ := kr2
  replace kp3 : ((-1 : Int) ≤ r2.1.toInt) ∧ (r2.1.toInt ≤ 9) ∧ ((r2.1.toInt < 0 ∧ (r2.2.1 1 2).toInt = (m.1 1 2).toInt) ∨ (0 ≤ r2.1.toInt ∧ (m.1 1 2).toInt < 80 ∧ (r2.2.1 1 2).toInt = (m.1 1 2).toInt + 1)) := kp3
  have kc6 : 0 ≤ (r2.2.1 1 2).toInt ∧ (r2.2.1 1 2).toInt ≤ 80 := ki4.1 1 2
  have kc7 : 0 ≤ (m.1 1 2).toInt ∧ (m.1 1 2).toInt ≤ 80 := hI.1 1 2
  have kc8 := L0
  refine s_le (fun kh9 => ?_) (fun kh9 => ?_)
  · refine s_bd (zX8_digit (9 : Int32) r2.2 (show 5 ≤ (9 : Int32).toInt ∧ (9 : Int32).toInt ≤ 9 by omega) ki4) (fun r4 kr10 => ?_)
    obtain ⟨kp11, ki12, kf13⟩ := kr10
    replace kp11 : ((-1 : Int) ≤ r4.1.toInt) ∧ (r4.1.toInt ≤ 9) ∧ ((r4.1.toInt < 0 ∧ (r4.2.1 1 2).toInt = (r2.2.1 1 2).toInt) ∨ (0 ≤ r4.1.toInt ∧ (r2.2.1 1 2).toInt < 80 ∧ (r4.2.1 1 2).toInt = (r2.2.1 1 2).toInt + 1)) := kp11
    have kc14 : 0 ≤ (r4.2.1 1 2).toInt ∧ (r4.2.1 1 2).toInt ≤ 80 := ki12.1 1 2
    refine s_lt (fun kh15 => ?_) (fun kh15 => ?_)
    · have kc16 := L1
      refine s_lt (fun kh17 => ?_) (fun kh17 => ?_)
      · have kc18 := Ln1
        have kc19 : ((r4.2.1 1 2) - (1 : Int32)).toInt = ((r4.2.1 1 2)).toInt - 1 := a_subl L1 (by omega) (by omega)
        have ki20 : zI (sm_w1 r4.2 1 2 ((r4.2.1 1 2) - (1 : Int32))) := zI.w ki12 rfl (show 0 ≤ (((r4.2.1 1 2) - (1 : Int32))).toInt ∧ (((r4.2.1 1 2) - (1 : Int32))).toInt ≤ 80 by omega)
        have kf21 : Fr wX8_longDigits m r2.2 := Fr.trans Fr.refl kf5 rfl
        have kf22 : Fr wX8_longDigits m r4.2 := Fr.trans kf21 kf13 rfl
        have kf23 : Fr wX8_longDigits m (sm_w1 r4.2 1 2 ((r4.2.1 1 2) - (1 : Int32))) := Fr.w kf22 rfl
        exact s_ret ⟨(show ((-1 : Int) ≤ (-1 : Int32).toInt) ∧ ((-1 : Int32).toInt ≤ 20) by omega), ki20, kf23⟩
      · have kc24 := L20
        refine s_le (fun kh25 => ?_) (fun kh25 => ?_)
        · have kf26 : Fr wX8_longDigits m r2.2 := Fr.trans Fr.refl kf5 rfl
          have kf27 : Fr wX8_longDigits m r4.2 := Fr.trans kf26 kf13 rfl
          exact s_ret ⟨(show ((-1 : Int) ≤ r2.1.toInt) ∧ (r2.1.toInt ≤ 20) by omega), ki12, kf27⟩
        · omega
    · have kc28 := L10
      have kc29 : ((10 : Int32) * r2.1).toInt = 10 * (r2.1).toInt := a_mul L10 rfl (by omega) (by omega)
      have kc30 : (((10 : Int32) * r2.1) + r4.1).toInt = (((10 : Int32) * r2.1)).toInt + (r4.1).toInt := a_add (by omega) (by omega)
      have kc31 := L1
      refine s_lt (fun kh32 => ?_) (fun kh32 => ?_)
      · have kc33 := Ln1
        have kc34 : ((r4.2.1 1 2) - (1 : Int32)).toInt = ((r4.2.1 1 2)).toInt - 1 := a_subl L1 (by omega) (by omega)
        have ki35 : zI (sm_w1 r4.2 1 2 ((r4.2.1 1 2) - (1 : Int32))) := zI.w ki12 rfl (show 0 ≤ (((r4.2.1 1 2) - (1 : Int32))).toInt ∧ (((r4.2.1 1 2) - (1 : Int32))).toInt ≤ 80 by omega)
        have kf36 : Fr wX8_longDigits m r2.2 := Fr.trans Fr.refl kf5 rfl
        have kf37 : Fr wX8_longDigits m r4.2 := Fr.trans kf36 kf13 rfl
        have kf38 : Fr wX8_longDigits m (sm_w1 r4.2 1 2 ((r4.2.1 1 2) - (1 : Int32))) := Fr.w kf37 rfl
        exact s_ret ⟨(show ((-1 : Int) ≤ (-1 : Int32).toInt) ∧ ((-1 : Int32).toInt ≤ 20) by omega), ki35, kf38⟩
      · have kc39 := L20
        refine s_le (fun kh40 => ?_) (fun kh40 => ?_)
        · have kf41 : Fr wX8_longDigits m r2.2 := Fr.trans Fr.refl kf5 rfl
          have kf42 : Fr wX8_longDigits m r4.2 := Fr.trans kf41 kf13 rfl
          exact s_ret ⟨(show ((-1 : Int) ≤ (((10 : Int32) * r2.1) + r4.1).toInt) ∧ ((((10 : Int32) * r2.1) + r4.1).toInt ≤ 20) by omega), ki12, kf42⟩
        · have kc43 := Ln1
          have kc44 : ((r4.2.1 1 2) - (1 : Int32)).toInt = ((r4.2.1 1 2)).toInt - 1 := a_subl L1 (by omega) (by omega)
          have ki45 : zI (sm_w1 r4.2 1 2 ((r4.2.1 1 2) - (1 : Int32))) := zI.w ki12 rfl (show 0 ≤ (((r4.2.1 1 2) - (1 : Int32))).toInt ∧ (((r4.2.1 1 2) - (1 : Int32))).toInt ≤ 80 by omega)
          have kf46 : Fr wX8_longDigits m r2.2 := Fr.trans Fr.refl kf5 rfl
          have kf47 : Fr wX8_longDigits m r4.2 := Fr.trans kf46 kf13 rfl
          have kf48 : Fr wX8_longDigits m (sm_w1 r4.2 1 2 ((r4.2.1 1 2) - (1 : Int32))) := Fr.w kf47 rfl
          exact s_ret ⟨(show ((-1 : Int) ≤ (-1 : Int32).toInt) ∧ ((-1 : Int32).toInt ≤ 20) by omega), ki45, kf48⟩
  · have kc49 := Ln1
    have kf50 : Fr wX8_longDigits m r2.2 := Fr.trans Fr.refl kf5 rfl
    exact s_ret ⟨(show ((-1 : Int) ≤ (-1 : Int32).toInt) ∧ ((-1 : Int32).toInt ≤ 20) by omega), ki4, kf50⟩
theorem zX8_skip (x1 : Int32) (m : sm_S) (hp : 58 ≤ x1.toInt ∧ x1.toInt ≤ 126) (hI : zI m) : Sf (fun r => ((0 ≤ r.1.toInt) ∧ (r.1.toInt ≤ 1)) ∧ zI r.2 ∧ Fr wX8_skip m r.2) (fX8_skip x1 m) := by
  have hfu := fuE
  unfold fX8_skip
  refine s_bd (zX8_signAt m hI) (fun r2 kr1 => ?_)
  replace kr1 : ((-1 : Int) ≤ r2.toInt) ∧ (r2.toInt ≤ 65535) ∧ (r2.toInt = -1 ∨ (m.1 1 2).toInt < 80) := kr1
  have kc2 : 0 ≤ (m.1 1 2).toInt ∧ (m.1 1 2).toInt ≤ 80 := hI.1 1 2
  refine s_eq (fun kh3 => ?_) (fun kh3 => ?_)
  · have kc4 := L1
    have kc5 : ((m.1 1 2) + (1 : Int32)).toInt = ((m.1 1 2)).toInt + 1 := a_addl L1 (by omega) (by omega)
    have ki6 : zI (sm_w1 m 1 2 ((m.1 1 2) + (1 : Int32))) := zI.w hI rfl (show 0 ≤ (((m.1 1 2) + (1 : Int32))).toInt ∧ (((m.1 1 2) + (1 : Int32))).toInt ≤ 80 by omega)
    have kf7 : Fr wX8_skip m (sm_w1 m 1 2 ((m.1 1 2) + (1 : Int32))) := Fr.w Fr.refl rfl
    exact s_ret ⟨(show (0 ≤ (1 : Int32).toInt) ∧ ((1 : Int32).toInt ≤ 1) by omega), ki6, kf7⟩
  · have kc8 := L0
    exact s_ret ⟨(show (0 ≤ (0 : Int32).toInt) ∧ ((0 : Int32).toInt ≤ 1) by omega), hI, Fr.refl⟩
theorem zX8_marked (x1 : Int32) (x2 : Int32) (m : sm_S) (hp : 119 ≤ x1.toInt ∧ x1.toInt ≤ 126 ∧ 0 ≤ x2.toInt ∧ x2.toInt ≤ 1) (hI : zI m) : Sf (fun r => (((-1 : Int) ≤ r.1.toInt) ∧ (r.1.toInt ≤ 9)) ∧ zI r.2 ∧ Fr wX8_marked m r.2) (fX8_marked x1 x2 m) := by
  have hfu := fuE
  unfold fX8_marked
  refine s_bd (zX8_skip x1 m (show 58 ≤ x1.toInt ∧ x1.toInt ≤ 126 by omega) hI) (fun r2 kr1 => ?_)
  obtain ⟨kp2, ki3, kf4⟩ := kr1
  replace kp2 : (0 ≤ r2.1.toInt) ∧ (r2.1.toInt ≤ 1) := kp2
  have kc5 := L0
  refine s_eq (fun kh6 => ?_) (fun kh6 => ?_)
  · have kf7 : Fr wX8_marked m r2.2 := Fr.trans Fr.refl kf4 rfl
    exact s_ret ⟨(show ((-1 : Int) ≤ x2.toInt) ∧ (x2.toInt ≤ 9) by omega), ki3, kf7⟩
  · have kc8 := L9
    refine s_bd (zX8_digit (9 : Int32) r2.2 (show 5 ≤ (9 : Int32).toInt ∧ (9 : Int32).toInt ≤ 9 by omega) ki3) (fun r4 kr9 => ?_)
    obtain ⟨kp10, ki11, kf12⟩ := kr9
    replace kp10 : ((-1 : Int) ≤ r4.1.toInt) ∧ (r4.1.toInt ≤ 9) ∧ ((r4.1.toInt < 0 ∧ (r4.2.1 1 2).toInt = (r2.2.1 1 2).toInt) ∨ (0 ≤ r4.1.toInt ∧ (r2.2.1 1 2).toInt < 80 ∧ (r4.2.1 1 2).toInt = (r2.2.1 1 2).toInt + 1)) := kp10
    have kc13 : 0 ≤ (r4.2.1 1 2).toInt ∧ (r4.2.1 1 2).toInt ≤ 80 := ki11.1 1 2
    have kc14 : 0 ≤ (r2.2.1 1 2).toInt ∧ (r2.2.1 1 2).toInt ≤ 80 := ki3.1 1 2
    have kf15 : Fr wX8_marked m r2.2 := Fr.trans Fr.refl kf4 rfl
    have kf16 : Fr wX8_marked m r4.2 := Fr.trans kf15 kf12 rfl
    exact s_ret ⟨(show ((-1 : Int) ≤ r4.1.toInt) ∧ (r4.1.toInt ≤ 9) by omega), ki11, kf16⟩
theorem zX8_readHedge (m : sm_S) (hI : zI m) : Sf (fun r => ((0 ≤ r.1.toInt) ∧ (r.1.toInt ≤ 1)) ∧ zI r.2 ∧ Fr wX8_readHedge m r.2) (fX8_readHedge m) := by
  have hfu := fuE
  unfold fX8_readHedge
  have kc1 : 0 ≤ (m.1 1 5).toInt ∧ (m.1 1 5).toInt ≤ 14 := hI.1 1 5
  have kc2 := L14
  refine s_lt (fun kh3 => ?_) (fun kh3 => ?_)
  · have kc4 := Ln1
    refine s_bd (zX8_cornerLetter (-1 : Int32) m (show (-1 : Int) ≤ (-1 : Int32).toInt ∧ (-1 : Int32).toInt ≤ 9 by omega) hI) (fun r2 kr5 => ?_)
    obtain ⟨kp6, ki7, kf8⟩ := kr5
    replace kp6 : ((-1 : Int) ≤ r2.1.toInt) ∧ (r2.1.toInt ≤ 9) := kp6
    have kc9 := L0
    refine s_le (fun kh10 => ?_) (fun kh10 => ?_)
    · refine s_bd (zX8_cornerLetter (r2.1) r2.2 (show (-1 : Int) ≤ (r2.1).toInt ∧ (r2.1).toInt ≤ 9 by omega) ki7) (fun r4 kr11 => ?_)
      obtain ⟨kp12, ki13, kf14⟩ := kr11
      replace kp12 : ((-1 : Int) ≤ r4.1.toInt) ∧ (r4.1.toInt ≤ 9) := kp12
      refine s_le (fun kh15 => ?_) (fun kh15 => ?_)
      · refine s_bd (zX8_longDigits r4.2 ki13) (fun r6 kr16 => ?_)
        obtain ⟨kp17, ki18, kf19⟩ := kr16
        replace kp17 : ((-1 : Int) ≤ r6.1.toInt) ∧ (r6.1.toInt ≤ 20) := kp17
        refine s_lt (fun kh20 => ?_) (fun kh20 => ?_)
        · have kf21 : Fr wX8_readHedge m r2.2 := Fr.trans Fr.refl kf8 rfl
          have kf22 : Fr wX8_readHedge m r4.2 := Fr.trans kf21 kf14 rfl
          have kf23 : Fr wX8_readHedge m r6.2 := Fr.trans kf22 kf19 rfl
          exact s_ret ⟨(show (0 ≤ (0 : Int32).toInt) ∧ ((0 : Int32).toInt ≤ 1) by omega), ki18, kf23⟩
        · have kc24 := L58
          refine s_bd (zX8_skip (58 : Int32) r6.2 (show 58 ≤ (58 : Int32).toInt ∧ (58 : Int32).toInt ≤ 126 by omega) ki18) (fun r8 kr25 => ?_)
          obtain ⟨kp26, ki27, kf28⟩ := kr25
          replace kp26 : (0 ≤ r8.1.toInt) ∧ (r8.1.toInt ≤ 1) := kp26
          refine s_eq (fun kh29 => ?_) (fun kh29 => ?_)
          · have kf30 : Fr wX8_readHedge m r2.2 := Fr.trans Fr.refl kf8 rfl
            have kf31 : Fr wX8_readHedge m r4.2 := Fr.trans kf30 kf14 rfl
            have kf32 : Fr wX8_readHedge m r6.2 := Fr.trans kf31 kf19 rfl
            have kf33 : Fr wX8_readHedge m r8.2 := Fr.trans kf32 kf28 rfl
            exact s_ret ⟨(show (0 ≤ (0 : Int32).toInt) ∧ ((0 : Int32).toInt ≤ 1) by omega), ki27, kf33⟩
          · have kc34 := L5
            refine s_bd (zX8_digit (5 : Int32) r8.2 (show 5 ≤ (5 : Int32).toInt ∧ (5 : Int32).toInt ≤ 9 by omega) ki27) (fun r10 kr35 => ?_)
            obtain ⟨kp36, ki37, kf38⟩ := kr35
            replace kp36 : ((-1 : Int) ≤ r10.1.toInt) ∧ (r10.1.toInt ≤ 9) ∧ ((r10.1.toInt < 0 ∧ (r10.2.1 1 2).toInt = (r8.2.1 1 2).toInt) ∨ (0 ≤ r10.1.toInt ∧ (r8.2.1 1 2).toInt < 80 ∧ (r10.2.1 1 2).toInt = (r8.2.1 1 2).toInt + 1)) := kp36
            have kc39 : 0 ≤ (r10.2.1 1 2).toInt ∧ (r10.2.1 1 2).toInt ≤ 80 := ki37.1 1 2
            have kc40 : 0 ≤ (r8.2.1 1 2).toInt ∧ (r8.2.1 1 2).toInt ≤ 80 := ki27.1 1 2
            refine s_le (fun kh41 => ?_) (fun kh41 => ?_)
            · refine s_bd (zX8_digit (5 : Int32) r10.2 (show 5 ≤ (5 : Int32).toInt ∧ (5 : Int32).toInt ≤ 9 by omega) ki37) (fun r12 kr42 => ?_)
              obtain ⟨kp43, ki44, kf45⟩ := kr42
              replace kp43 : ((-1 : Int) ≤ r12.1.toInt) ∧ (r12.1.toInt ≤ 9) ∧ ((r12.1.toInt < 0 ∧ (r12.2.1 1 2).toInt = (r10.2.1 1 2).toInt) ∨ (0 ≤ r12.1.toInt ∧ (r10.2.1 1 2).toInt < 80 ∧ (r12.2.1 1 2).toInt = (r10.2.1 1 2).toInt + 1)) := kp43
              have kc46 : 0 ≤ (r12.2.1 1 2).toInt ∧ (r12.2.1 1 2).toInt ≤ 80 := ki44.1 1 2
              refine s_le (fun kh47 => ?_) (fun kh47 => ?_)
              · have kc48 := L119
                have kc49 := L1
                refine s_bd (zX8_marked (119 : Int32) (1 : Int32) r12.2 (show 119 ≤ (119 : Int32).toInt ∧ (119 : Int32).toInt ≤ 126 ∧ 0 ≤ (1 : Int32).toInt ∧ (1 : Int32).toInt ≤ 1 by omega) ki44) (fun r14 kr50 => ?_)
                obtain ⟨kp51, ki52, kf53⟩ := kr50
                replace kp51 : ((-1 : Int) ≤ r14.1.toInt) ∧ (r14.1.toInt ≤ 9) := kp51
                refine s_le (fun kh54 => ?_) (fun kh54 => ?_)
                · have kc55 := L126
                  refine s_bd (zX8_marked (126 : Int32) (0 : Int32) r14.2 (show 119 ≤ (126 : Int32).toInt ∧ (126 : Int32).toInt ≤ 126 ∧ 0 ≤ (0 : Int32).toInt ∧ (0 : Int32).toInt ≤ 1 by omega) ki52) (fun r16 kr56 => ?_)
                  obtain ⟨kp57, ki58, kf59⟩ := kr56
                  replace kp57 : ((-1 : Int) ≤ r16.1.toInt) ∧ (r16.1.toInt ≤ 9) := kp57
                  refine s_le (fun kh60 => ?_) (fun kh60 => ?_)
                  · have kc61 : 0 ≤ (r16.2.1 1 5).toInt ∧ (r16.2.1 1 5).toInt ≤ 14 := ki58.1 1 5
                    have kc62 : (r16.2.1 1 5).toInt = (r14.2.1 1 5).toInt := congrArg Int32.toInt (kf59 1 5 rfl)
                    have kc63 : 0 ≤ (r14.2.1 1 5).toInt ∧ (r14.2.1 1 5).toInt ≤ 14 := ki52.1 1 5
                    have kc64 : (r14.2.1 1 5).toInt = (r12.2.1 1 5).toInt := congrArg Int32.toInt (kf53 1 5 rfl)
                    have kc65 : 0 ≤ (r12.2.1 1 5).toInt ∧ (r12.2.1 1 5).toInt ≤ 14 := ki44.1 1 5
                    have kc66 : (r12.2.1 1 5).toInt = (r10.2.1 1 5).toInt := congrArg Int32.toInt (kf45 1 5 rfl)
                    have kc67 : 0 ≤ (r10.2.1 1 5).toInt ∧ (r10.2.1 1 5).toInt ≤ 14 := ki37.1 1 5
                    have kc68 : (r10.2.1 1 5).toInt = (r8.2.1 1 5).toInt := congrArg Int32.toInt (kf38 1 5 rfl)
                    have kc69 : 0 ≤ (r8.2.1 1 5).toInt ∧ (r8.2.1 1 5).toInt ≤ 14 := ki27.1 1 5
                    have kc70 : (r8.2.1 1 5).toInt = (r6.2.1 1 5).toInt := congrArg Int32.toInt (kf28 1 5 rfl)
                    have kc71 : 0 ≤ (r6.2.1 1 5).toInt ∧ (r6.2.1 1 5).toInt ≤ 14 := ki18.1 1 5
                    have kc72 : (r6.2.1 1 5).toInt = (r4.2.1 1 5).toInt := congrArg Int32.toInt (kf19 1 5 rfl)
                    have kc73 : 0 ≤ (r4.2.1 1 5).toInt ∧ (r4.2.1 1 5).toInt ≤ 14 := ki13.1 1 5
                    have kc74 : (r4.2.1 1 5).toInt = (r2.2.1 1 5).toInt := congrArg Int32.toInt (kf14 1 5 rfl)
                    have kc75 : 0 ≤ (r2.2.1 1 5).toInt ∧ (r2.2.1 1 5).toInt ≤ 14 := ki7.1 1 5
                    have kc76 : (r2.2.1 1 5).toInt = (m.1 1 5).toInt := congrArg Int32.toInt (kf8 1 5 rfl)
                    have kx77 : 0 ≤ ((r16.2.1 1 5)).toInt ∧ ((r16.2.1 1 5)).toInt < (14 : Int) := by omega
                    refine s_ix kx77 ?_
                    refine s_ix kx77 ?_
                    refine s_ix kx77 ?_
                    refine s_ix kx77 ?_
                    refine s_ix kx77 ?_
                    refine s_ix kx77 ?_
                    refine s_ix kx77 ?_
                    have kc78 := L103
                    have ki79 : zI (sm_w1 r16.2 6 ((r16.2.1 1 5)).toNatClampNeg r2.1) := zI.w ki58 rfl (show 0 ≤ (r2.1).toInt ∧ (r2.1).toInt ≤ 9 by omega)
                    have ki80 : zI (sm_w1 (sm_w1 r16.2 6 ((r16.2.1 1 5)).toNatClampNeg r2.1) 7 ((r16.2.1 1 5)).toNatClampNeg r4.1) := zI.w ki79 rfl (show 0 ≤ (r4.1).toInt ∧ (r4.1).toInt ≤ 9 by omega)
                    have ki81 : zI (sm_w1 (sm_w1 (sm_w1 r16.2 6 ((r16.2.1 1 5)).toNatClampNeg r2.1) 7 ((r16.2.1 1 5)).toNatClampNeg r4.1) 8 ((r16.2.1 1 5)).toNatClampNeg r6.1) := zI.w ki80 rfl (show 0 ≤ (r6.1).toInt ∧ (r6.1).toInt ≤ 20 by omega)
                    have ki82 : zI (sm_w1 (sm_w1 (sm_w1 (sm_w1 r16.2 6 ((r16.2.1 1 5)).toNatClampNeg r2.1) 7 ((r16.2.1 1 5)).toNatClampNeg r4.1) 8 ((r16.2.1 1 5)).toNatClampNeg r6.1) 9 ((r16.2.1 1 5)).toNatClampNeg r10.1) := zI.w ki81 rfl (show 0 ≤ (r10.1).toInt ∧ (r10.1).toInt ≤ 9 by omega)
                    have ki83 : zI (sm_w1 (sm_w1 (sm_w1 (sm_w1 (sm_w1 r16.2 6 ((r16.2.1 1 5)).toNatClampNeg r2.1) 7 ((r16.2.1 1 5)).toNatClampNeg r4.1) 8 ((r16.2.1 1 5)).toNatClampNeg r6.1) 9 ((r16.2.1 1 5)).toNatClampNeg r10.1) 10 ((r16.2.1 1 5)).toNatClampNeg r12.1) := zI.w ki82 rfl (show 0 ≤ (r12.1).toInt ∧ (r12.1).toInt ≤ 9 by omega)
                    have ki84 : zI (sm_w1 (sm_w1 (sm_w1 (sm_w1 (sm_w1 (sm_w1 r16.2 6 ((r16.2.1 1 5)).toNatClampNeg r2.1) 7 ((r16.2.1 1 5)).toNatClampNeg r4.1) 8 ((r16.2.1 1 5)).toNatClampNeg r6.1) 9 ((r16.2.1 1 5)).toNatClampNeg r10.1) 10 ((r16.2.1 1 5)).toNatClampNeg r12.1) 11 ((r16.2.1 1 5)).toNatClampNeg r14.1) := zI.w ki83 rfl (show 0 ≤ (r14.1).toInt ∧ (r14.1).toInt ≤ 9 by omega)
                    have ki85 : zI (sm_w1 (sm_w1 (sm_w1 (sm_w1 (sm_w1 (sm_w1 (sm_w1 r16.2 6 ((r16.2.1 1 5)).toNatClampNeg r2.1) 7 ((r16.2.1 1 5)).toNatClampNeg r4.1) 8 ((r16.2.1 1 5)).toNatClampNeg r6.1) 9 ((r16.2.1 1 5)).toNatClampNeg r10.1) 10 ((r16.2.1 1 5)).toNatClampNeg r12.1) 11 ((r16.2.1 1 5)).toNatClampNeg r14.1) 12 ((r16.2.1 1 5)).toNatClampNeg r16.1) := zI.w ki84 rfl (show 0 ≤ (r16.1).toInt ∧ (r16.1).toInt ≤ 9 by omega)
                    refine s_bd (zX8_skip (103 : Int32) (sm_w1 (sm_w1 (sm_w1 (sm_w1 (sm_w1 (sm_w1 (sm_w1 r16.2 6 ((r16.2.1 1 5)).toNatClampNeg r2.1) 7 ((r16.2.1 1 5)).toNatClampNeg r4.1) 8 ((r16.2.1 1 5)).toNatClampNeg r6.1) 9 ((r16.2.1 1 5)).toNatClampNeg r10.1) 10 ((r16.2.1 1 5)).toNatClampNeg r12.1) 11 ((r16.2.1 1 5)).toNatClampNeg r14.1) 12 ((r16.2.1 1 5)).toNatClampNeg r16.1) (show 58 ≤ (103 : Int32).toInt ∧ (103 : Int32).toInt ≤ 126 by omega) ki85) (fun r25 kr86 => ?_)
                    obtain ⟨kp87, ki88, kf89⟩ := kr86
                    replace kp87 : (0 ≤ r25.1.toInt) ∧ (r25.1.toInt ≤ 1) := kp87
                    refine s_ix kx77 ?_
                    have kc90 : 0 ≤ (vp_nar .boolean r25.1).toInt ∧ (vp_nar .boolean r25.1).toInt ≤ 1 := a_bool _
                    have ki91 : zI (sm_w1 r25.2 13 ((r16.2.1 1 5)).toNatClampNeg (vp_nar .boolean r25.1)) := zI.w ki88 rfl (show 0 ≤ ((vp_nar .boolean r25.1)).toInt ∧ ((vp_nar .boolean r25.1)).toInt ≤ 1 by omega)
                    have kc92 : 0 ≤ (r25.2.1 1 5).toInt ∧ (r25.2.1 1 5).toInt ≤ 14 := ki88.1 1 5
                    have kc93 : (r25.2.1 1 5).toInt = ((sm_w1 (sm_w1 (sm_w1 (sm_w1 (sm_w1 (sm_w1 (sm_w1 r16.2 6 ((r16.2.1 1 5)).toNatClampNeg r2.1) 7 ((r16.2.1 1 5)).toNatClampNeg r4.1) 8 ((r16.2.1 1 5)).toNatClampNeg r6.1) 9 ((r16.2.1 1 5)).toNatClampNeg r10.1) 10 ((r16.2.1 1 5)).toNatClampNeg r12.1) 11 ((r16.2.1 1 5)).toNatClampNeg r14.1) 12 ((r16.2.1 1 5)).toNatClampNeg r16.1).1 1 5).toInt := congrArg Int32.toInt (kf89 1 5 rfl)
                    have kc94 : 0 ≤ ((sm_w1 (sm_w1 (sm_w1 (sm_w1 (sm_w1 (sm_w1 (sm_w1 r16.2 6 ((r16.2.1 1 5)).toNatClampNeg r2.1) 7 ((r16.2.1 1 5)).toNatClampNeg r4.1) 8 ((r16.2.1 1 5)).toNatClampNeg r6.1) 9 ((r16.2.1 1 5)).toNatClampNeg r10.1) 10 ((r16.2.1 1 5)).toNatClampNeg r12.1) 11 ((r16.2.1 1 5)).toNatClampNeg r14.1) 12 ((r16.2.1 1 5)).toNatClampNeg r16.1).1 1 5).toInt ∧ ((sm_w1 (sm_w1 (sm_w1 (sm_w1 (sm_w1 (sm_w1 (sm_w1 r16.2 6 ((r16.2.1 1 5)).toNatClampNeg r2.1) 7 ((r16.2.1 1 5)).toNatClampNeg r4.1) 8 ((r16.2.1 1 5)).toNatClampNeg r6.1) 9 ((r16.2.1 1 5)).toNatClampNeg r10.1) 10 ((r16.2.1 1 5)).toNatClampNeg r12.1) 11 ((r16.2.1 1 5)).toNatClampNeg r14.1) 12 ((r16.2.1 1 5)).toNatClampNeg r16.1).1 1 5).toInt ≤ 14 := ki85.1 1 5
                    have kc95 : ((sm_w1 (sm_w1 (sm_w1 (sm_w1 (sm_w1 (sm_w1 (sm_w1 r16.2 6 ((r16.2.1 1 5)).toNatClampNeg r2.1) 7 ((r16.2.1 1 5)).toNatClampNeg r4.1) 8 ((r16.2.1 1 5)).toNatClampNeg r6.1) 9 ((r16.2.1 1 5)).toNatClampNeg r10.1) 10 ((r16.2.1 1 5)).toNatClampNeg r12.1) 11 ((r16.2.1 1 5)).toNatClampNeg r14.1) 12 ((r16.2.1 1 5)).toNatClampNeg r16.1).1 1 5).toInt = ((sm_w1 (sm_w1 (sm_w1 (sm_w1 (sm_w1 (sm_w1 r16.2 6 ((r16.2.1 1 5)).toNatClampNeg r2.1) 7 ((r16.2.1 1 5)).toNatClampNeg r4.1) 8 ((r16.2.1 1 5)).toNatClampNeg r6.1) 9 ((r16.2.1 1 5)).toNatClampNeg r10.1) 10 ((r16.2.1 1 5)).toNatClampNeg r12.1) 11 ((r16.2.1 1 5)).toNatClampNeg r14.1).1 1 5).toInt := congrArg Int32.toInt (r_cell (by decide))
                    have kc96 : 0 ≤ ((sm_w1 (sm_w1 (sm_w1 (sm_w1 (sm_w1 (sm_w1 r16.2 6 ((r16.2.1 1 5)).toNatClampNeg r2.1) 7 ((r16.2.1 1 5)).toNatClampNeg r4.1) 8 ((r16.2.1 1 5)).toNatClampNeg r6.1) 9 ((r16.2.1 1 5)).toNatClampNeg r10.1) 10 ((r16.2.1 1 5)).toNatClampNeg r12.1) 11 ((r16.2.1 1 5)).toNatClampNeg r14.1).1 1 5).toInt ∧ ((sm_w1 (sm_w1 (sm_w1 (sm_w1 (sm_w1 (sm_w1 r16.2 6 ((r16.2.1 1 5)).toNatClampNeg r2.1) 7 ((r16.2.1 1 5)).toNatClampNeg r4.1) 8 ((r16.2.1 1 5)).toNatClampNeg r6.1) 9 ((r16.2.1 1 5)).toNatClampNeg r10.1) 10 ((r16.2.1 1 5)).toNatClampNeg r12.1) 11 ((r16.2.1 1 5)).toNatClampNeg r14.1).1 1 5).toInt ≤ 14 := ki84.1 1 5
                    have kc97 : ((sm_w1 (sm_w1 (sm_w1 (sm_w1 (sm_w1 (sm_w1 r16.2 6 ((r16.2.1 1 5)).toNatClampNeg r2.1) 7 ((r16.2.1 1 5)).toNatClampNeg r4.1) 8 ((r16.2.1 1 5)).toNatClampNeg r6.1) 9 ((r16.2.1 1 5)).toNatClampNeg r10.1) 10 ((r16.2.1 1 5)).toNatClampNeg r12.1) 11 ((r16.2.1 1 5)).toNatClampNeg r14.1).1 1 5).toInt = ((sm_w1 (sm_w1 (sm_w1 (sm_w1 (sm_w1 r16.2 6 ((r16.2.1 1 5)).toNatClampNeg r2.1) 7 ((r16.2.1 1 5)).toNatClampNeg r4.1) 8 ((r16.2.1 1 5)).toNatClampNeg r6.1) 9 ((r16.2.1 1 5)).toNatClampNeg r10.1) 10 ((r16.2.1 1 5)).toNatClampNeg r12.1).1 1 5).toInt := congrArg Int32.toInt (r_cell (by decide))
                    have kc98 : 0 ≤ ((sm_w1 (sm_w1 (sm_w1 (sm_w1 (sm_w1 r16.2 6 ((r16.2.1 1 5)).toNatClampNeg r2.1) 7 ((r16.2.1 1 5)).toNatClampNeg r4.1) 8 ((r16.2.1 1 5)).toNatClampNeg r6.1) 9 ((r16.2.1 1 5)).toNatClampNeg r10.1) 10 ((r16.2.1 1 5)).toNatClampNeg r12.1).1 1 5).toInt ∧ ((sm_w1 (sm_w1 (sm_w1 (sm_w1 (sm_w1 r16.2 6 ((r16.2.1 1 5)).toNatClampNeg r2.1) 7 ((r16.2.1 1 5)).toNatClampNeg r4.1) 8 ((r16.2.1 1 5)).toNatClampNeg r6.1) 9 ((r16.2.1 1 5)).toNatClampNeg r10.1) 10 ((r16.2.1 1 5)).toNatClampNeg r12.1).1 1 5).toInt ≤ 14 := ki83.1 1 5
                    have kc99 : ((sm_w1 (sm_w1 (sm_w1 (sm_w1 (sm_w1 r16.2 6 ((r16.2.1 1 5)).toNatClampNeg r2.1) 7 ((r16.2.1 1 5)).toNatClampNeg r4.1) 8 ((r16.2.1 1 5)).toNatClampNeg r6.1) 9 ((r16.2.1 1 5)).toNatClampNeg r10.1) 10 ((r16.2.1 1 5)).toNatClampNeg r12.1).1 1 5).toInt = ((sm_w1 (sm_w1 (sm_w1 (sm_w1 r16.2 6 ((r16.2.1 1 5)).toNatClampNeg r2.1) 7 ((r16.2.1 1 5)).toNatClampNeg r4.1) 8 ((r16.2.1 1 5)).toNatClampNeg r6.1) 9 ((r16.2.1 1 5)).toNatClampNeg r10.1).1 1 5).toInt := congrArg Int32.toInt (r_cell (by decide))
                    have kc100 : 0 ≤ ((sm_w1 (sm_w1 (sm_w1 (sm_w1 r16.2 6 ((r16.2.1 1 5)).toNatClampNeg r2.1) 7 ((r16.2.1 1 5)).toNatClampNeg r4.1) 8 ((r16.2.1 1 5)).toNatClampNeg r6.1) 9 ((r16.2.1 1 5)).toNatClampNeg r10.1).1 1 5).toInt ∧ ((sm_w1 (sm_w1 (sm_w1 (sm_w1 r16.2 6 ((r16.2.1 1 5)).toNatClampNeg r2.1) 7 ((r16.2.1 1 5)).toNatClampNeg r4.1) 8 ((r16.2.1 1 5)).toNatClampNeg r6.1) 9 ((r16.2.1 1 5)).toNatClampNeg r10.1).1 1 5).toInt ≤ 14 := ki82.1 1 5
                    have kc101 : ((sm_w1 (sm_w1 (sm_w1 (sm_w1 r16.2 6 ((r16.2.1 1 5)).toNatClampNeg r2.1) 7 ((r16.2.1 1 5)).toNatClampNeg r4.1) 8 ((r16.2.1 1 5)).toNatClampNeg r6.1) 9 ((r16.2.1 1 5)).toNatClampNeg r10.1).1 1 5).toInt = ((sm_w1 (sm_w1 (sm_w1 r16.2 6 ((r16.2.1 1 5)).toNatClampNeg r2.1) 7 ((r16.2.1 1 5)).toNatClampNeg r4.1) 8 ((r16.2.1 1 5)).toNatClampNeg r6.1).1 1 5).toInt := congrArg Int32.toInt (r_cell (by decide))
                    have kc102 : 0 ≤ ((sm_w1 (sm_w1 (sm_w1 r16.2 6 ((r16.2.1 1 5)).toNatClampNeg r2.1) 7 ((r16.2.1 1 5)).toNatClampNeg r4.1) 8 ((r16.2.1 1 5)).toNatClampNeg r6.1).1 1 5).toInt ∧ ((sm_w1 (sm_w1 (sm_w1 r16.2 6 ((r16.2.1 1 5)).toNatClampNeg r2.1) 7 ((r16.2.1 1 5)).toNatClampNeg r4.1) 8 ((r16.2.1 1 5)).toNatClampNeg r6.1).1 1 5).toInt ≤ 14 := ki81.1 1 5
                    have kc103 : ((sm_w1 (sm_w1 (sm_w1 r16.2 6 ((r16.2.1 1 5)).toNatClampNeg r2.1) 7 ((r16.2.1 1 5)).toNatClampNeg r4.1) 8 ((r16.2.1 1 5)).toNatClampNeg r6.1).1 1 5).toInt = ((sm_w1 (sm_w1 r16.2 6 ((r16.2.1 1 5)).toNatClampNeg r2.1) 7 ((r16.2.1 1 5)).toNatClampNeg r4.1).1 1 5).toInt := congrArg Int32.toInt (r_cell (by decide))
                    have kc104 : 0 ≤ ((sm_w1 (sm_w1 r16.2 6 ((r16.2.1 1 5)).toNatClampNeg r2.1) 7 ((r16.2.1 1 5)).toNatClampNeg r4.1).1 1 5).toInt ∧ ((sm_w1 (sm_w1 r16.2 6 ((r16.2.1 1 5)).toNatClampNeg r2.1) 7 ((r16.2.1 1 5)).toNatClampNeg r4.1).1 1 5).toInt ≤ 14 := ki80.1 1 5
                    have kc105 : ((sm_w1 (sm_w1 r16.2 6 ((r16.2.1 1 5)).toNatClampNeg r2.1) 7 ((r16.2.1 1 5)).toNatClampNeg r4.1).1 1 5).toInt = ((sm_w1 r16.2 6 ((r16.2.1 1 5)).toNatClampNeg r2.1).1 1 5).toInt := congrArg Int32.toInt (r_cell (by decide))
                    have kc106 : 0 ≤ ((sm_w1 r16.2 6 ((r16.2.1 1 5)).toNatClampNeg r2.1).1 1 5).toInt ∧ ((sm_w1 r16.2 6 ((r16.2.1 1 5)).toNatClampNeg r2.1).1 1 5).toInt ≤ 14 := ki79.1 1 5
                    have kc107 : ((sm_w1 r16.2 6 ((r16.2.1 1 5)).toNatClampNeg r2.1).1 1 5).toInt = (r16.2.1 1 5).toInt := congrArg Int32.toInt (r_cell (by decide))
                    have kc108 : ((r25.2.1 1 5) + (1 : Int32)).toInt = ((r25.2.1 1 5)).toInt + 1 := a_addl L1 (by omega) (by omega)
                    have ki109 : zI (sm_w1 (sm_w1 r25.2 13 ((r16.2.1 1 5)).toNatClampNeg (vp_nar .boolean r25.1)) 1 5 ((r25.2.1 1 5) + (1 : Int32))) := zI.w ki91 rfl (show 0 ≤ (((r25.2.1 1 5) + (1 : Int32))).toInt ∧ (((r25.2.1 1 5) + (1 : Int32))).toInt ≤ 14 by omega)
                    have kf110 : Fr wX8_readHedge m r2.2 := Fr.trans Fr.refl kf8 rfl
                    have kf111 : Fr wX8_readHedge m r4.2 := Fr.trans kf110 kf14 rfl
                    have kf112 : Fr wX8_readHedge m r6.2 := Fr.trans kf111 kf19 rfl
                    have kf113 : Fr wX8_readHedge m r8.2 := Fr.trans kf112 kf28 rfl
                    have kf114 : Fr wX8_readHedge m r10.2 := Fr.trans kf113 kf38 rfl
                    have kf115 : Fr wX8_readHedge m r12.2 := Fr.trans kf114 kf45 rfl
                    have kf116 : Fr wX8_readHedge m r14.2 := Fr.trans kf115 kf53 rfl
                    have kf117 : Fr wX8_readHedge m r16.2 := Fr.trans kf116 kf59 rfl
                    have kf118 : Fr wX8_readHedge m (sm_w1 r16.2 6 ((r16.2.1 1 5)).toNatClampNeg r2.1) := Fr.w kf117 rfl
                    have kf119 : Fr wX8_readHedge m (sm_w1 (sm_w1 r16.2 6 ((r16.2.1 1 5)).toNatClampNeg r2.1) 7 ((r16.2.1 1 5)).toNatClampNeg r4.1) := Fr.w kf118 rfl
                    have kf120 : Fr wX8_readHedge m (sm_w1 (sm_w1 (sm_w1 r16.2 6 ((r16.2.1 1 5)).toNatClampNeg r2.1) 7 ((r16.2.1 1 5)).toNatClampNeg r4.1) 8 ((r16.2.1 1 5)).toNatClampNeg r6.1) := Fr.w kf119 rfl
                    have kf121 : Fr wX8_readHedge m (sm_w1 (sm_w1 (sm_w1 (sm_w1 r16.2 6 ((r16.2.1 1 5)).toNatClampNeg r2.1) 7 ((r16.2.1 1 5)).toNatClampNeg r4.1) 8 ((r16.2.1 1 5)).toNatClampNeg r6.1) 9 ((r16.2.1 1 5)).toNatClampNeg r10.1) := Fr.w kf120 rfl
                    have kf122 : Fr wX8_readHedge m (sm_w1 (sm_w1 (sm_w1 (sm_w1 (sm_w1 r16.2 6 ((r16.2.1 1 5)).toNatClampNeg r2.1) 7 ((r16.2.1 1 5)).toNatClampNeg r4.1) 8 ((r16.2.1 1 5)).toNatClampNeg r6.1) 9 ((r16.2.1 1 5)).toNatClampNeg r10.1) 10 ((r16.2.1 1 5)).toNatClampNeg r12.1) := Fr.w kf121 rfl
                    have kf123 : Fr wX8_readHedge m (sm_w1 (sm_w1 (sm_w1 (sm_w1 (sm_w1 (sm_w1 r16.2 6 ((r16.2.1 1 5)).toNatClampNeg r2.1) 7 ((r16.2.1 1 5)).toNatClampNeg r4.1) 8 ((r16.2.1 1 5)).toNatClampNeg r6.1) 9 ((r16.2.1 1 5)).toNatClampNeg r10.1) 10 ((r16.2.1 1 5)).toNatClampNeg r12.1) 11 ((r16.2.1 1 5)).toNatClampNeg r14.1) := Fr.w kf122 rfl
                    have kf124 : Fr wX8_readHedge m (sm_w1 (sm_w1 (sm_w1 (sm_w1 (sm_w1 (sm_w1 (sm_w1 r16.2 6 ((r16.2.1 1 5)).toNatClampNeg r2.1) 7 ((r16.2.1 1 5)).toNatClampNeg r4.1) 8 ((r16.2.1 1 5)).toNatClampNeg r6.1) 9 ((r16.2.1 1 5)).toNatClampNeg r10.1) 10 ((r16.2.1 1 5)).toNatClampNeg r12.1) 11 ((r16.2.1 1 5)).toNatClampNeg r14.1) 12 ((r16.2.1 1 5)).toNatClampNeg r16.1) := Fr.w kf123 rfl
                    have kf125 : Fr wX8_readHedge m r25.2 := Fr.trans kf124 kf89 rfl
                    have kf126 : Fr wX8_readHedge m (sm_w1 r25.2 13 ((r16.2.1 1 5)).toNatClampNeg (vp_nar .boolean r25.1)) := Fr.w kf125 rfl
                    have kf127 : Fr wX8_readHedge m (sm_w1 (sm_w1 r25.2 13 ((r16.2.1 1 5)).toNatClampNeg (vp_nar .boolean r25.1)) 1 5 ((r25.2.1 1 5) + (1 : Int32))) := Fr.w kf126 rfl
                    exact s_ret ⟨(show (0 ≤ (1 : Int32).toInt) ∧ ((1 : Int32).toInt ≤ 1) by omega), ki109, kf127⟩
                  · have kf128 : Fr wX8_readHedge m r2.2 := Fr.trans Fr.refl kf8 rfl
                    have kf129 : Fr wX8_readHedge m r4.2 := Fr.trans kf128 kf14 rfl
                    have kf130 : Fr wX8_readHedge m r6.2 := Fr.trans kf129 kf19 rfl
                    have kf131 : Fr wX8_readHedge m r8.2 := Fr.trans kf130 kf28 rfl
                    have kf132 : Fr wX8_readHedge m r10.2 := Fr.trans kf131 kf38 rfl
                    have kf133 : Fr wX8_readHedge m r12.2 := Fr.trans kf132 kf45 rfl
                    have kf134 : Fr wX8_readHedge m r14.2 := Fr.trans kf133 kf53 rfl
                    have kf135 : Fr wX8_readHedge m r16.2 := Fr.trans kf134 kf59 rfl
                    exact s_ret ⟨(show (0 ≤ (0 : Int32).toInt) ∧ ((0 : Int32).toInt ≤ 1) by omega), ki58, kf135⟩
                · have kf136 : Fr wX8_readHedge m r2.2 := Fr.trans Fr.refl kf8 rfl
                  have kf137 : Fr wX8_readHedge m r4.2 := Fr.trans kf136 kf14 rfl
                  have kf138 : Fr wX8_readHedge m r6.2 := Fr.trans kf137 kf19 rfl
                  have kf139 : Fr wX8_readHedge m r8.2 := Fr.trans kf138 kf28 rfl
                  have kf140 : Fr wX8_readHedge m r10.2 := Fr.trans kf139 kf38 rfl
                  have kf141 : Fr wX8_readHedge m r12.2 := Fr.trans kf140 kf45 rfl
                  have kf142 : Fr wX8_readHedge m r14.2 := Fr.trans kf141 kf53 rfl
                  exact s_ret ⟨(show (0 ≤ (0 : Int32).toInt) ∧ ((0 : Int32).toInt ≤ 1) by omega), ki52, kf142⟩
              · have kf143 : Fr wX8_readHedge m r2.2 := Fr.trans Fr.refl kf8 rfl
                have kf144 : Fr wX8_readHedge m r4.2 := Fr.trans kf143 kf14 rfl
                have kf145 : Fr wX8_readHedge m r6.2 := Fr.trans kf144 kf19 rfl
                have kf146 : Fr wX8_readHedge m r8.2 := Fr.trans kf145 kf28 rfl
                have kf147 : Fr wX8_readHedge m r10.2 := Fr.trans kf146 kf38 rfl
                have kf148 : Fr wX8_readHedge m r12.2 := Fr.trans kf147 kf45 rfl
                exact s_ret ⟨(show (0 ≤ (0 : Int32).toInt) ∧ ((0 : Int32).toInt ≤ 1) by omega), ki44, kf148⟩
            · have kf149 : Fr wX8_readHedge m r2.2 := Fr.trans Fr.refl kf8 rfl
              have kf150 : Fr wX8_readHedge m r4.2 := Fr.trans kf149 kf14 rfl
              have kf151 : Fr wX8_readHedge m r6.2 := Fr.trans kf150 kf19 rfl
              have kf152 : Fr wX8_readHedge m r8.2 := Fr.trans kf151 kf28 rfl
              have kf153 : Fr wX8_readHedge m r10.2 := Fr.trans kf152 kf38 rfl
              exact s_ret ⟨(show (0 ≤ (0 : Int32).toInt) ∧ ((0 : Int32).toInt ≤ 1) by omega), ki37, kf153⟩
      · have kf154 : Fr wX8_readHedge m r2.2 := Fr.trans Fr.refl kf8 rfl
        have kf155 : Fr wX8_readHedge m r4.2 := Fr.trans kf154 kf14 rfl
        exact s_ret ⟨(show (0 ≤ (0 : Int32).toInt) ∧ ((0 : Int32).toInt ≤ 1) by omega), ki13, kf155⟩
    · have kf156 : Fr wX8_readHedge m r2.2 := Fr.trans Fr.refl kf8 rfl
      exact s_ret ⟨(show (0 ≤ (0 : Int32).toInt) ∧ ((0 : Int32).toInt ≤ 1) by omega), ki7, kf156⟩
  · have kc157 := L0
    exact s_ret ⟨(show (0 ≤ (0 : Int32).toInt) ∧ ((0 : Int32).toInt ≤ 1) by omega), hI, Fr.refl⟩
theorem zX8_readCorner (m : sm_S) (hp : (m.1 1 2).toInt < 80) (hI : zI m) : Sf (fun r => ((0 ≤ r.1.toInt) ∧ (r.1.toInt ≤ 1)) ∧ zI r.2 ∧ Fr wX8_readCorner m r.2) (fX8_readCorner m) := by
  have hfu := fuE
  have kc1 : 0 ≤ (m.1 1 2).toInt ∧ (m.1 1 2).toInt ≤ 80 := hI.1 1 2
  unfold fX8_readCorner
  have kc2 : 0 ≤ (m.1 1 4).toInt ∧ (m.1 1 4).toInt ≤ 10 := hI.1 1 4
  have kc3 := L10
  refine s_lt (fun kh4 => ?_) (fun kh4 => ?_)
  · have kc5 := L9
    have kc6 : ((m.1 1 2) + (1 : Int32)).toInt = ((m.1 1 2)).toInt + 1 := a_addl L1 (by omega) (by omega)
    have ki7 : zI (sm_w1 m 1 2 ((m.1 1 2) + (1 : Int32))) := zI.w hI rfl (show 0 ≤ (((m.1 1 2) + (1 : Int32))).toInt ∧ (((m.1 1 2) + (1 : Int32))).toInt ≤ 80 by omega)
    refine s_bd (zX8_digit (9 : Int32) (sm_w1 m 1 2 ((m.1 1 2) + (1 : Int32))) (show 5 ≤ (9 : Int32).toInt ∧ (9 : Int32).toInt ≤ 9 by omega) ki7) (fun r2 kr8 => ?_)
    obtain ⟨kp9, ki10, kf11⟩ := kr8
    replace kp9 : ((-1 : Int) ≤ r2.1.toInt) ∧ (r2.1.toInt ≤ 9) ∧ ((r2.1.toInt < 0 ∧ (r2.2.1 1 2).toInt = ((sm_w1 m 1 2 ((m.1 1 2) + (1 : Int32))).1 1 2).toInt) ∨ (0 ≤ r2.1.toInt ∧ ((sm_w1 m 1 2 ((m.1 1 2) + (1 : Int32))).1 1 2).toInt < 80 ∧ (r2.2.1 1 2).toInt = ((sm_w1 m 1 2 ((m.1 1 2) + (1 : Int32))).1 1 2).toInt + 1)) := kp9
    have kc12 : 0 ≤ (r2.2.1 1 2).toInt ∧ (r2.2.1 1 2).toInt ≤ 80 := ki10.1 1 2
    have kc13 : 0 ≤ ((sm_w1 m 1 2 ((m.1 1 2) + (1 : Int32))).1 1 2).toInt ∧ ((sm_w1 m 1 2 ((m.1 1 2) + (1 : Int32))).1 1 2).toInt ≤ 80 := ki7.1 1 2
    have kc14 : ((sm_w1 m 1 2 ((m.1 1 2) + (1 : Int32))).1 1 2).toInt = (((m.1 1 2) + (1 : Int32))).toInt := rfl
    have kc15 := L0
    refine s_le (fun kh16 => ?_) (fun kh16 => ?_)
    · refine s_bd (zX8_digit (9 : Int32) r2.2 (show 5 ≤ (9 : Int32).toInt ∧ (9 : Int32).toInt ≤ 9 by omega) ki10) (fun r4 kr17 => ?_)
      obtain ⟨kp18, ki19, kf20⟩ := kr17
      replace kp18 : ((-1 : Int) ≤ r4.1.toInt) ∧ (r4.1.toInt ≤ 9) ∧ ((r4.1.toInt < 0 ∧ (r4.2.1 1 2).toInt = (r2.2.1 1 2).toInt) ∨ (0 ≤ r4.1.toInt ∧ (r2.2.1 1 2).toInt < 80 ∧ (r4.2.1 1 2).toInt = (r2.2.1 1 2).toInt + 1)) := kp18
      have kc21 : 0 ≤ (r4.2.1 1 2).toInt ∧ (r4.2.1 1 2).toInt ≤ 80 := ki19.1 1 2
      refine s_le (fun kh22 => ?_) (fun kh22 => ?_)
      · have kc23 : 0 ≤ (r4.2.1 1 4).toInt ∧ (r4.2.1 1 4).toInt ≤ 10 := ki19.1 1 4
        have kc24 : (r4.2.1 1 4).toInt = (r2.2.1 1 4).toInt := congrArg Int32.toInt (kf20 1 4 rfl)
        have kc25 : 0 ≤ (r2.2.1 1 4).toInt ∧ (r2.2.1 1 4).toInt ≤ 10 := ki10.1 1 4
        have kc26 : (r2.2.1 1 4).toInt = ((sm_w1 m 1 2 ((m.1 1 2) + (1 : Int32))).1 1 4).toInt := congrArg Int32.toInt (kf11 1 4 rfl)
        have kc27 : 0 ≤ ((sm_w1 m 1 2 ((m.1 1 2) + (1 : Int32))).1 1 4).toInt ∧ ((sm_w1 m 1 2 ((m.1 1 2) + (1 : Int32))).1 1 4).toInt ≤ 10 := ki7.1 1 4
        have kc28 : ((sm_w1 m 1 2 ((m.1 1 2) + (1 : Int32))).1 1 4).toInt = (m.1 1 4).toInt := rfl
        have kx29 : 0 ≤ ((r4.2.1 1 4)).toInt ∧ ((r4.2.1 1 4)).toInt < (10 : Int) := by omega
        refine s_ix kx29 ?_
        refine s_ix kx29 ?_
        have kc30 := L1
        have ki31 : zI (sm_w1 r4.2 4 ((r4.2.1 1 4)).toNatClampNeg r2.1) := zI.w ki19 rfl (show 0 ≤ (r2.1).toInt ∧ (r2.1).toInt ≤ 9 by omega)
        have ki32 : zI (sm_w1 (sm_w1 r4.2 4 ((r4.2.1 1 4)).toNatClampNeg r2.1) 5 ((r4.2.1 1 4)).toNatClampNeg r4.1) := zI.w ki31 rfl (show 0 ≤ (r4.1).toInt ∧ (r4.1).toInt ≤ 9 by omega)
        have kc33 : ((r4.2.1 1 4) + (1 : Int32)).toInt = ((r4.2.1 1 4)).toInt + 1 := a_addl L1 (by omega) (by omega)
        have ki34 : zI (sm_w1 (sm_w1 (sm_w1 r4.2 4 ((r4.2.1 1 4)).toNatClampNeg r2.1) 5 ((r4.2.1 1 4)).toNatClampNeg r4.1) 1 4 ((r4.2.1 1 4) + (1 : Int32))) := zI.w ki32 rfl (show 0 ≤ (((r4.2.1 1 4) + (1 : Int32))).toInt ∧ (((r4.2.1 1 4) + (1 : Int32))).toInt ≤ 10 by omega)
        have kf35 : Fr wX8_readCorner m (sm_w1 m 1 2 ((m.1 1 2) + (1 : Int32))) := Fr.w Fr.refl rfl
        have kf36 : Fr wX8_readCorner m r2.2 := Fr.trans kf35 kf11 rfl
        have kf37 : Fr wX8_readCorner m r4.2 := Fr.trans kf36 kf20 rfl
        have kf38 : Fr wX8_readCorner m (sm_w1 r4.2 4 ((r4.2.1 1 4)).toNatClampNeg r2.1) := Fr.w kf37 rfl
        have kf39 : Fr wX8_readCorner m (sm_w1 (sm_w1 r4.2 4 ((r4.2.1 1 4)).toNatClampNeg r2.1) 5 ((r4.2.1 1 4)).toNatClampNeg r4.1) := Fr.w kf38 rfl
        have kf40 : Fr wX8_readCorner m (sm_w1 (sm_w1 (sm_w1 r4.2 4 ((r4.2.1 1 4)).toNatClampNeg r2.1) 5 ((r4.2.1 1 4)).toNatClampNeg r4.1) 1 4 ((r4.2.1 1 4) + (1 : Int32))) := Fr.w kf39 rfl
        exact s_ret ⟨(show (0 ≤ (1 : Int32).toInt) ∧ ((1 : Int32).toInt ≤ 1) by omega), ki34, kf40⟩
      · have kf41 : Fr wX8_readCorner m (sm_w1 m 1 2 ((m.1 1 2) + (1 : Int32))) := Fr.w Fr.refl rfl
        have kf42 : Fr wX8_readCorner m r2.2 := Fr.trans kf41 kf11 rfl
        have kf43 : Fr wX8_readCorner m r4.2 := Fr.trans kf42 kf20 rfl
        exact s_ret ⟨(show (0 ≤ (0 : Int32).toInt) ∧ ((0 : Int32).toInt ≤ 1) by omega), ki19, kf43⟩
    · have kf44 : Fr wX8_readCorner m (sm_w1 m 1 2 ((m.1 1 2) + (1 : Int32))) := Fr.w Fr.refl rfl
      have kf45 : Fr wX8_readCorner m r2.2 := Fr.trans kf44 kf11 rfl
      exact s_ret ⟨(show (0 ≤ (0 : Int32).toInt) ∧ ((0 : Int32).toInt ≤ 1) by omega), ki10, kf45⟩
  · have kc46 := L0
    exact s_ret ⟨(show (0 ≤ (0 : Int32).toInt) ∧ ((0 : Int32).toInt ≤ 1) by omega), hI, Fr.refl⟩
theorem zX8_readLine (m : sm_S) (hI : zI m) : Sf (fun r => ((0 ≤ r.1.toInt) ∧ (r.1.toInt ≤ 1)) ∧ zI r.2 ∧ Fr wX8_readLine m r.2) (fX8_readLine m) := by
  have hfu := fuE
  unfold fX8_readLine
  refine s_bd (zX8_signAt m hI) (fun r2 kr1 => ?_)
  replace kr1 : ((-1 : Int) ≤ r2.toInt) ∧ (r2.toInt ≤ 65535) ∧ (r2.toInt = -1 ∨ (m.1 1 2).toInt < 80) := kr1
  have kc2 : 0 ≤ (m.1 1 2).toInt ∧ (m.1 1 2).toInt ≤ 80 := hI.1 1 2
  have kc3 := L64
  refine s_eq (fun kh4 => ?_) (fun kh4 => ?_)
  · refine s_bd (zX8_readCorner m (show (m.1 1 2).toInt < 80 by omega) hI) (fun r7 kr5 => ?_)
    obtain ⟨kp6, ki7, kf8⟩ := kr5
    replace kp6 : (0 ≤ r7.1.toInt) ∧ (r7.1.toInt ≤ 1) := kp6
    refine s_nb (show (r7.1).toInt = 0 ∨ (r7.1).toInt = 1 by omega) ?_
    have kf9 : Fr wX8_readLine m r7.2 := Fr.trans Fr.refl kf8 rfl
    exact s_ret ⟨(show (0 ≤ r7.1.toInt) ∧ (r7.1.toInt ≤ 1) by omega), ki7, kf9⟩
  · refine s_bd (zX8_readHedge m hI) (fun r4 kr10 => ?_)
    obtain ⟨kp11, ki12, kf13⟩ := kr10
    replace kp11 : (0 ≤ r4.1.toInt) ∧ (r4.1.toInt ≤ 1) := kp11
    refine s_nb (show (r4.1).toInt = 0 ∨ (r4.1).toInt = 1 by omega) ?_
    have kf14 : Fr wX8_readLine m r4.2 := Fr.trans Fr.refl kf13 rfl
    exact s_ret ⟨(show (0 ≤ r4.1.toInt) ∧ (r4.1.toInt ≤ 1) by omega), ki12, kf14⟩
theorem zX8_readLines_38 (m0 : sm_S) : ∀ (n : Nat) (v2 : Int32) (v3 : Int32) (m : sm_S), (0 ≤ v2.toInt ∧ v2.toInt ≤ 77 ∧ 0 ≤ v3.toInt ∧ v3.toInt ≤ 1 ∧ 77 - v2.toInt < (n : Int)) → zI m → Fr wX8_readLines m0 m → Sf (fun r => (((-81 : Int) ≤ r.1.toInt) ∧ (r.1.toInt ≤ 77)) ∧ zI r.2 ∧ Fr wX8_readLines m0 r.2) (fX8_readLines_38 n v2 v3 m) := by
  intro n
  induction n with
  | zero =>
    intro v2 v3 m hp hI hF
    exfalso
    omega
  | succ n ih =>
    intro v2 v3 m hp hI hF
    have hnn : ((n + 1 : Nat) : Int) = (n : Int) + 1 := by omega
    have hfu := fuE
    unfold fX8_readLines_38
    have kc1 := L0
    refine s_eq (fun kh2 => ?_) (fun kh2 => ?_)
    · have kc3 : 0 ≤ (m.1 1 1).toInt ∧ (m.1 1 1).toInt ≤ 80 := hI.1 1 1
      have kc4 : 0 ≤ (m.1 1 2).toInt ∧ (m.1 1 2).toInt ≤ 80 := hI.1 1 2
      refine s_le (fun kh5 => ?_) (fun kh5 => ?_)
      · have kc6 : 0 ≤ (m.1 1 4).toInt ∧ (m.1 1 4).toInt ≤ 10 := hI.1 1 4
        have ki7 : zI (sm_w1 m 3 0 (m.1 1 4)) := zI.w hI rfl (show 0 ≤ ((m.1 1 4)).toInt ∧ ((m.1 1 4)).toInt ≤ 10 by omega)
        have kc8 : 0 ≤ (m.1 1 5).toInt ∧ (m.1 1 5).toInt ≤ 14 := hI.1 1 5
        have ki9 : zI (sm_w1 (sm_w1 m 3 0 (m.1 1 4)) 3 1 (m.1 1 5)) := zI.w ki7 rfl (show 0 ≤ ((m.1 1 5)).toInt ∧ ((m.1 1 5)).toInt ≤ 14 by omega)
        have kf10 : Fr wX8_readLines m0 (sm_w1 m 3 0 (m.1 1 4)) := Fr.w hF rfl
        have kf11 : Fr wX8_readLines m0 (sm_w1 (sm_w1 m 3 0 (m.1 1 4)) 3 1 (m.1 1 5)) := Fr.w kf10 rfl
        exact s_ret ⟨(show ((-81 : Int) ≤ v2.toInt) ∧ (v2.toInt ≤ 77) by omega), ki9, kf11⟩
      · have kc12 := Ln1
        have kc13 : ((-1 : Int32) - (m.1 1 2)).toInt = ((-1 : Int32)).toInt - ((m.1 1 2)).toInt := a_sub (by omega) (by omega)
        exact s_ret ⟨(show ((-81 : Int) ≤ ((-1 : Int32) - (m.1 1 2)).toInt) ∧ (((-1 : Int32) - (m.1 1 2)).toInt ≤ 77) by omega), hI, hF⟩
    · have kc14 := L76
      refine s_lt (fun kh15 => ?_) (fun kh15 => ?_)
      · have kc16 : 0 ≤ (m.1 1 1).toInt ∧ (m.1 1 1).toInt ≤ 80 := hI.1 1 1
        have kc17 : 0 ≤ (m.1 1 2).toInt ∧ (m.1 1 2).toInt ≤ 80 := hI.1 1 2
        refine s_le (fun kh18 => ?_) (fun kh18 => ?_)
        · have kc19 : 0 ≤ (m.1 1 4).toInt ∧ (m.1 1 4).toInt ≤ 10 := hI.1 1 4
          have ki20 : zI (sm_w1 m 3 0 (m.1 1 4)) := zI.w hI rfl (show 0 ≤ ((m.1 1 4)).toInt ∧ ((m.1 1 4)).toInt ≤ 10 by omega)
          have kc21 : 0 ≤ (m.1 1 5).toInt ∧ (m.1 1 5).toInt ≤ 14 := hI.1 1 5
          have ki22 : zI (sm_w1 (sm_w1 m 3 0 (m.1 1 4)) 3 1 (m.1 1 5)) := zI.w ki20 rfl (show 0 ≤ ((m.1 1 5)).toInt ∧ ((m.1 1 5)).toInt ≤ 14 by omega)
          have kf23 : Fr wX8_readLines m0 (sm_w1 m 3 0 (m.1 1 4)) := Fr.w hF rfl
          have kf24 : Fr wX8_readLines m0 (sm_w1 (sm_w1 m 3 0 (m.1 1 4)) 3 1 (m.1 1 5)) := Fr.w kf23 rfl
          exact s_ret ⟨(show ((-81 : Int) ≤ v2.toInt) ∧ (v2.toInt ≤ 77) by omega), ki22, kf24⟩
        · have kc25 := Ln1
          have kc26 : ((-1 : Int32) - (m.1 1 2)).toInt = ((-1 : Int32)).toInt - ((m.1 1 2)).toInt := a_sub (by omega) (by omega)
          exact s_ret ⟨(show ((-81 : Int) ≤ ((-1 : Int32) - (m.1 1 2)).toInt) ∧ (((-1 : Int32) - (m.1 1 2)).toInt ≤ 77) by omega), hI, hF⟩
      · refine s_bd (zX8_readLine m hI) (fun r2 kr27 => ?_)
        obtain ⟨kp28, ki29, kf30⟩ := kr27
        replace kp28 : (0 ≤ r2.1.toInt) ∧ (r2.1.toInt ≤ 1) := kp28
        refine s_eq (fun kh31 => ?_) (fun kh31 => ?_)
        · have kc32 := Ln1
          have kc33 : 0 ≤ (r2.2.1 1 2).toInt ∧ (r2.2.1 1 2).toInt ≤ 80 := ki29.1 1 2
          have kc34 : ((-1 : Int32) - (r2.2.1 1 2)).toInt = ((-1 : Int32)).toInt - ((r2.2.1 1 2)).toInt := a_sub (by omega) (by omega)
          have kf35 : Fr wX8_readLines m0 r2.2 := Fr.trans hF kf30 rfl
          exact s_ret ⟨(show ((-81 : Int) ≤ ((-1 : Int32) - (r2.2.1 1 2)).toInt) ∧ (((-1 : Int32) - (r2.2.1 1 2)).toInt ≤ 77) by omega), ki29, kf35⟩
        · have kc36 := L59
          refine s_bd (zX8_skip (59 : Int32) r2.2 (show 58 ≤ (59 : Int32).toInt ∧ (59 : Int32).toInt ≤ 126 by omega) ki29) (fun r4 kr37 => ?_)
          obtain ⟨kp38, ki39, kf40⟩ := kr37
          replace kp38 : (0 ≤ r4.1.toInt) ∧ (r4.1.toInt ≤ 1) := kp38
          have kc41 : (v2 + (1 : Int32)).toInt = (v2).toInt + 1 := a_addl L1 (by omega) (by omega)
          have kf42 : Fr wX8_readLines m0 r2.2 := Fr.trans hF kf30 rfl
          have kf43 : Fr wX8_readLines m0 r4.2 := Fr.trans kf42 kf40 rfl
          exact ih (v2 + (1 : Int32)) r4.1 r4.2 (show 0 ≤ (v2 + (1 : Int32)).toInt ∧ (v2 + (1 : Int32)).toInt ≤ 77 ∧ 0 ≤ (r4.1).toInt ∧ (r4.1).toInt ≤ 1 ∧ 77 - (v2 + (1 : Int32)).toInt < (n : Int) by omega) ki39 kf43
theorem zX8_readLines (m : sm_S) (hI : zI m) : Sf (fun r => (((-81 : Int) ≤ r.1.toInt) ∧ (r.1.toInt ≤ 77)) ∧ zI r.2 ∧ Fr wX8_readLines m r.2) (fX8_readLines m) := by
  have hfu := fuE
  unfold fX8_readLines
  have kc1 := L0
  have kc2 := L1
  have ki3 : zI (sm_w1 m 1 2 (0 : Int32)) := zI.w hI rfl (show 0 ≤ ((0 : Int32)).toInt ∧ ((0 : Int32)).toInt ≤ 80 by omega)
  have kc4 := L76
  have kc5 : 0 ≤ (m.1 1 1).toInt ∧ (m.1 1 1).toInt ≤ 80 := hI.1 1 1
  have kc6 : (((76 : Int32)).toInt < ((m.1 1 1)).toInt ∧ (if (76 : Int32) < (m.1 1 1) then (76 : Int32) else (m.1 1 1)).toInt = ((76 : Int32)).toInt) ∨ (((m.1 1 1)).toInt ≤ ((76 : Int32)).toInt ∧ (if (76 : Int32) < (m.1 1 1) then (76 : Int32) else (m.1 1 1)).toInt = ((m.1 1 1)).toInt) := a_ilt
  have ki7 : zI (sm_w1 (sm_w1 m 1 2 (0 : Int32)) 1 3 (if (76 : Int32) < (m.1 1 1) then (76 : Int32) else (m.1 1 1))) := zI.w ki3 rfl (show 0 ≤ ((if (76 : Int32) < (m.1 1 1) then (76 : Int32) else (m.1 1 1))).toInt ∧ ((if (76 : Int32) < (m.1 1 1) then (76 : Int32) else (m.1 1 1))).toInt ≤ 76 by omega)
  have kc8 : 0 ≤ (m.1 3 0).toInt ∧ (m.1 3 0).toInt ≤ 10 := hI.1 3 0
  have ki9 : zI (sm_w1 (sm_w1 (sm_w1 m 1 2 (0 : Int32)) 1 3 (if (76 : Int32) < (m.1 1 1) then (76 : Int32) else (m.1 1 1))) 1 4 (m.1 3 0)) := zI.w ki7 rfl (show 0 ≤ ((m.1 3 0)).toInt ∧ ((m.1 3 0)).toInt ≤ 10 by omega)
  have kc10 : 0 ≤ (m.1 3 1).toInt ∧ (m.1 3 1).toInt ≤ 14 := hI.1 3 1
  have ki11 : zI (sm_w1 (sm_w1 (sm_w1 (sm_w1 m 1 2 (0 : Int32)) 1 3 (if (76 : Int32) < (m.1 1 1) then (76 : Int32) else (m.1 1 1))) 1 4 (m.1 3 0)) 1 5 (m.1 3 1)) := zI.w ki9 rfl (show 0 ≤ ((m.1 3 1)).toInt ∧ ((m.1 3 1)).toInt ≤ 14 by omega)
  have kf12 : Fr wX8_readLines m (sm_w1 m 1 2 (0 : Int32)) := Fr.w Fr.refl rfl
  have kf13 : Fr wX8_readLines m (sm_w1 (sm_w1 m 1 2 (0 : Int32)) 1 3 (if (76 : Int32) < (m.1 1 1) then (76 : Int32) else (m.1 1 1))) := Fr.w kf12 rfl
  have kf14 : Fr wX8_readLines m (sm_w1 (sm_w1 (sm_w1 m 1 2 (0 : Int32)) 1 3 (if (76 : Int32) < (m.1 1 1) then (76 : Int32) else (m.1 1 1))) 1 4 (m.1 3 0)) := Fr.w kf13 rfl
  have kf15 : Fr wX8_readLines m (sm_w1 (sm_w1 (sm_w1 (sm_w1 m 1 2 (0 : Int32)) 1 3 (if (76 : Int32) < (m.1 1 1) then (76 : Int32) else (m.1 1 1))) 1 4 (m.1 3 0)) 1 5 (m.1 3 1)) := Fr.w kf14 rfl
  exact zX8_readLines_38 m sm_fu (0 : Int32) (1 : Int32) (sm_w1 (sm_w1 (sm_w1 (sm_w1 m 1 2 (0 : Int32)) 1 3 (if (76 : Int32) < (m.1 1 1) then (76 : Int32) else (m.1 1 1))) 1 4 (m.1 3 0)) 1 5 (m.1 3 1)) (show 0 ≤ (0 : Int32).toInt ∧ (0 : Int32).toInt ≤ 77 ∧ 0 ≤ (1 : Int32).toInt ∧ (1 : Int32).toInt ≤ 1 ∧ 77 - (0 : Int32).toInt < (sm_fu : Int) by omega) ki11 kf15
theorem zX11_land (m : sm_S) (hI : zI m) : Sf (fun r => (((-81 : Int) ≤ r.1.toInt) ∧ (r.1.toInt ≤ 77) ∧ ((r.2.1 1 1).toInt = 0)) ∧ zI r.2 ∧ Fr wX11_land m r.2) (fX11_land m) := by
  have hfu := fuE
  unfold fX11_land
  have kc1 : 0 ≤ (m.1 1 1).toInt ∧ (m.1 1 1).toInt ≤ 80 := hI.1 1 1
  have kc2 := L0
  refine s_eq (fun kh3 => ?_) (fun kh3 => ?_)
  · exact s_ret ⟨(show ((-81 : Int) ≤ (0 : Int32).toInt) ∧ ((0 : Int32).toInt ≤ 77) ∧ ((m.1 1 1).toInt = 0) by omega), hI, Fr.refl⟩
  · refine s_bd (zX8_readLines m hI) (fun r2 kr4 => ?_)
    obtain ⟨kp5, ki6, kf7⟩ := kr4
    replace kp5 : ((-81 : Int) ≤ r2.1.toInt) ∧ (r2.1.toInt ≤ 77) := kp5
    refine s_le (fun kh8 => ?_) (fun kh8 => ?_)
    · have ki9 : zI (sm_w1 r2.2 1 1 (0 : Int32)) := zI.w ki6 rfl (show 0 ≤ ((0 : Int32)).toInt ∧ ((0 : Int32)).toInt ≤ 80 by omega)
      have kc10 : 0 ≤ ((sm_w1 r2.2 1 1 (0 : Int32)).1 1 1).toInt ∧ ((sm_w1 r2.2 1 1 (0 : Int32)).1 1 1).toInt ≤ 80 := ki9.1 1 1
      have kc11 : ((sm_w1 r2.2 1 1 (0 : Int32)).1 1 1).toInt = ((0 : Int32)).toInt := rfl
      have kf12 : Fr wX11_land m r2.2 := Fr.trans Fr.refl kf7 rfl
      have kf13 : Fr wX11_land m (sm_w1 r2.2 1 1 (0 : Int32)) := Fr.w kf12 rfl
      exact s_ret ⟨(show ((-81 : Int) ≤ r2.1.toInt) ∧ (r2.1.toInt ≤ 77) ∧ (((sm_w1 r2.2 1 1 (0 : Int32)).1 1 1).toInt = 0) by omega), ki9, kf13⟩
    · have ki14 : zI (sm_w1 r2.2 1 1 (0 : Int32)) := zI.w ki6 rfl (show 0 ≤ ((0 : Int32)).toInt ∧ ((0 : Int32)).toInt ≤ 80 by omega)
      have ki15 : zI (sm_w1 (sm_w1 r2.2 1 1 (0 : Int32)) 20 0 (0 : Int32)) := zI.w ki14 rfl (show 0 ≤ ((0 : Int32)).toInt ∧ ((0 : Int32)).toInt ≤ 30 by omega)
      have kc16 : 0 ≤ ((sm_w1 (sm_w1 r2.2 1 1 (0 : Int32)) 20 0 (0 : Int32)).1 1 1).toInt ∧ ((sm_w1 (sm_w1 r2.2 1 1 (0 : Int32)) 20 0 (0 : Int32)).1 1 1).toInt ≤ 80 := ki15.1 1 1
      have kc17 : ((sm_w1 (sm_w1 r2.2 1 1 (0 : Int32)) 20 0 (0 : Int32)).1 1 1).toInt = ((sm_w1 r2.2 1 1 (0 : Int32)).1 1 1).toInt := congrArg Int32.toInt (r_cell (by decide))
      have kc18 : 0 ≤ ((sm_w1 r2.2 1 1 (0 : Int32)).1 1 1).toInt ∧ ((sm_w1 r2.2 1 1 (0 : Int32)).1 1 1).toInt ≤ 80 := ki14.1 1 1
      have kc19 : ((sm_w1 r2.2 1 1 (0 : Int32)).1 1 1).toInt = ((0 : Int32)).toInt := rfl
      have kf20 : Fr wX11_land m r2.2 := Fr.trans Fr.refl kf7 rfl
      have kf21 : Fr wX11_land m (sm_w1 r2.2 1 1 (0 : Int32)) := Fr.w kf20 rfl
      have kf22 : Fr wX11_land m (sm_w1 (sm_w1 r2.2 1 1 (0 : Int32)) 20 0 (0 : Int32)) := Fr.w kf21 rfl
      exact s_ret ⟨(show ((-81 : Int) ≤ r2.1.toInt) ∧ (r2.1.toInt ≤ 77) ∧ (((sm_w1 (sm_w1 r2.2 1 1 (0 : Int32)) 20 0 (0 : Int32)).1 1 1).toInt = 0) by omega), ki15, kf22⟩
