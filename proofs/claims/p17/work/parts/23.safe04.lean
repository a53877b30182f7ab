theorem zX9_firstMeeting_21 (k9 : Int32 → Int32 → Int32 → Int32 → sm_S → Option (Int32)) (Nk9 : Nat) (hk9 : ∀ (v2 : Int32) (v3 : Int32) (v4 : Int32) (v5 : Int32) (m : sm_S), (0 ≤ v2.toInt ∧ v2.toInt ≤ 99 ∧ v3.toInt ≤ 65535 ∧ 0 ≤ v4.toInt ∧ v4.toInt ≤ 9 ∧ 0 ≤ v5.toInt ∧ v5.toInt ≤ 30 ∧ 30 - v5.toInt < (Nk9 : Int)) → zI m → Sf (fun r => True) (k9 v2 v3 v4 v5 m)) : ∀ (n : Nat) (v2 : Int32) (v3 : Int32) (v4 : Int32) (v5 : Int32) (v6 : Int32) (m : sm_S), (0 ≤ v2.toInt ∧ v2.toInt ≤ 99 ∧ v3.toInt ≤ 65535 ∧ 0 ≤ v4.toInt ∧ v4.toInt ≤ 9 ∧ 0 ≤ v5.toInt ∧ v5.toInt ≤ 29 ∧ 0 ≤ v6.toInt ∧ v6.toInt ≤ 30 ∧ 30 - v6.toInt < (n : Int) ∧ 30 - v5.toInt ≤ (Nk9 : Int)) → zI m → Sf (fun r => True) (fX9_firstMeeting_21 k9 n v2 v3 v4 v5 v6 m) := by
  intro n
  induction n with
  | zero =>
    intro v2 v3 v4 v5 v6 m hp hI
    have krgv3 := rg v3
    exfalso
    omega
  | succ n ih =>
    intro v2 v3 v4 v5 v6 m hp hI
    have hnn : ((n + 1 : Nat) : Int) = (n : Int) + 1 := by omega
    have hfu := fuE
    have krgv3 := rg v3
    unfold fX9_firstMeeting_21
    have kc1 : 0 ≤ (m.1 62 2).toInt ∧ (m.1 62 2).toInt ≤ 29 := hI.1 62 2
    refine s_lt (fun kh2 => ?_) (fun kh2 => ?_)
    · have kc3 : (v5 + (1 : Int32)).toInt = (v5).toInt + 1 := a_addl L1 (by omega) (by omega)
      exact hk9 v2 v3 v4 (v5 + (1 : Int32)) m (show 0 ≤ v2.toInt ∧ v2.toInt ≤ 99 ∧ v3.toInt ≤ 65535 ∧ 0 ≤ v4.toInt ∧ v4.toInt ≤ 9 ∧ 0 ≤ (v5 + (1 : Int32)).toInt ∧ (v5 + (1 : Int32)).toInt ≤ 30 ∧ 30 - (v5 + (1 : Int32)).toInt < (Nk9 : Int) by omega) hI
    · have kx4 : 0 ≤ (v5).toInt ∧ (v5).toInt < (30 : Int) := by omega
      refine s_ix kx4 ?_
      have kx5 : 0 ≤ (v6).toInt ∧ (v6).toInt < (30 : Int) := by omega
      refine s_ix kx5 ?_
      have kc6 : 0 ≤ (m.1 60 (v5).toNatClampNeg).toInt ∧ (m.1 60 (v5).toNatClampNeg).toInt ≤ 9 := hI.1 60 (v5).toNatClampNeg
      have kc7 : 0 ≤ (m.1 64 (v6).toNatClampNeg).toInt ∧ (m.1 64 (v6).toNatClampNeg).toInt ≤ 9 := hI.1 64 (v6).toNatClampNeg
      refine s_eq (fun kh8 => ?_) (fun kh8 => ?_)
      · refine s_bd (zX9_minuteOfBoth v5 v6 v2 m (show 0 ≤ v5.toInt ∧ v5.toInt ≤ 29 ∧ 0 ≤ v6.toInt ∧ v6.toInt ≤ 29 ∧ 0 ≤ v2.toInt ∧ v2.toInt ≤ 99 by omega) hI) (fun r5 kr9 => ?_)
        refine s_le (fun kh10 => ?_) (fun kh10 => ?_)
        · have kc11 : (v6 + (1 : Int32)).toInt = (v6).toInt + 1 := a_addl L1 (by omega) (by omega)
          exact ih v2 v3 v4 v5 (v6 + (1 : Int32)) m (show 0 ≤ v2.toInt ∧ v2.toInt ≤ 99 ∧ v3.toInt ≤ 65535 ∧ 0 ≤ v4.toInt ∧ v4.toInt ≤ 9 ∧ 0 ≤ v5.toInt ∧ v5.toInt ≤ 29 ∧ 0 ≤ (v6 + (1 : Int32)).toInt ∧ (v6 + (1 : Int32)).toInt ≤ 30 ∧ 30 - (v6 + (1 : Int32)).toInt < (n : Int) ∧ 30 - v5.toInt ≤ (Nk9 : Int) by omega) hI
        · refine s_ix kx4 ?_
          have kc12 : (v6 + (1 : Int32)).toInt = (v6).toInt + 1 := a_addl L1 (by omega) (by omega)
          exact ih v2 r5 (m.1 60 (v5).toNatClampNeg) v5 (v6 + (1 : Int32)) m (show 0 ≤ v2.toInt ∧ v2.toInt ≤ 99 ∧ r5.toInt ≤ 65535 ∧ 0 ≤ (m.1 60 (v5).toNatClampNeg).toInt ∧ (m.1 60 (v5).toNatClampNeg).toInt ≤ 9 ∧ 0 ≤ v5.toInt ∧ v5.toInt ≤ 29 ∧ 0 ≤ (v6 + (1 : Int32)).toInt ∧ (v6 + (1 : Int32)).toInt ≤ 30 ∧ 30 - (v6 + (1 : Int32)).toInt < (n : Int) ∧ 30 - v5.toInt ≤ (Nk9 : Int) by omega) hI
      · have kc13 := L65535
        refine s_le (fun kh14 => ?_) (fun kh14 => ?_)
        · have kc15 : (v6 + (1 : Int32)).toInt = (v6).toInt + 1 := a_addl L1 (by omega) (by omega)
          exact ih v2 v3 v4 v5 (v6 + (1 : Int32)) m (show 0 ≤ v2.toInt ∧ v2.toInt ≤ 99 ∧ v3.toInt ≤ 65535 ∧ 0 ≤ v4.toInt ∧ v4.toInt ≤ 9 ∧ 0 ≤ v5.toInt ∧ v5.toInt ≤ 29 ∧ 0 ≤ (v6 + (1 : Int32)).toInt ∧ (v6 + (1 : Int32)).toInt ≤ 30 ∧ 30 - (v6 + (1 : Int32)).toInt < (n : Int) ∧ 30 - v5.toInt ≤ (Nk9 : Int) by omega) hI
        · omega
theorem zX9_firstMeeting_9 : ∀ (n : Nat) (v2 : Int32) (v3 : Int32) (v4 : Int32) (v5 : Int32) (m : sm_S), (0 ≤ v2.toInt ∧ v2.toInt ≤ 99 ∧ v3.toInt ≤ 65535 ∧ 0 ≤ v4.toInt ∧ v4.toInt ≤ 9 ∧ 0 ≤ v5.toInt ∧ v5.toInt ≤ 30 ∧ 30 - v5.toInt < (n : Int)) → zI m → Sf (fun r => True) (fX9_firstMeeting_9 n v2 v3 v4 v5 m) := by
  intro n
  induction n with
  | zero =>
    intro v2 v3 v4 v5 m hp hI
    have krgv3 := rg v3
    exfalso
    omega
  | succ n ih =>
    intro v2 v3 v4 v5 m hp hI
    have hnn : ((n + 1 : Nat) : Int) = (n : Int) + 1 := by omega
    have hfu := fuE
    have krgv3 := rg v3
    unfold fX9_firstMeeting_9
    have kc1 : 0 ≤ (m.1 58 2).toInt ∧ (m.1 58 2).toInt ≤ 29 := hI.1 58 2
    refine s_lt (fun kh2 => ?_) (fun kh2 => ?_)
    · have kc3 := L65535
      refine s_le (fun kh4 => ?_) (fun kh4 => ?_)
      · have kc5 := Ln1
        exact s_ret trivial
      · have kc6 := L4
        have kc7 := L31
        have kc8 : 0 ≤ ((4 : Int32) &&& (31 : Int32)).toInt ∧ ((4 : Int32) &&& (31 : Int32)).toInt ≤ ((31 : Int32)).toInt := a_andr (by omega)
        have kc9 : 0 ≤ ((4 : Int32) &&& (31 : Int32)).toInt ∧ ((4 : Int32) &&& (31 : Int32)).toInt ≤ ((4 : Int32)).toInt := a_andl (by omega)
        exact s_ret trivial
    · have kc10 := L0
      exact zX9_firstMeeting_21 (fX9_firstMeeting_9 n) n ih sm_fu v2 v3 v4 v5 (0 : Int32) m (show 0 ≤ v2.toInt ∧ v2.toInt ≤ 99 ∧ v3.toInt ≤ 65535 ∧ 0 ≤ v4.toInt ∧ v4.toInt ≤ 9 ∧ 0 ≤ v5.toInt ∧ v5.toInt ≤ 29 ∧ 0 ≤ (0 : Int32).toInt ∧ (0 : Int32).toInt ≤ 30 ∧ 30 - (0 : Int32).toInt < (sm_fu : Int) ∧ 30 - v5.toInt ≤ (n : Int) by omega) hI
theorem zX9_firstMeeting (x1 : Int32) (m : sm_S) (hp : 0 ≤ x1.toInt ∧ x1.toInt ≤ 99) (hI : zI m) : Sf (fun r => True) (fX9_firstMeeting x1 m) := by
  have hfu := fuE
  unfold fX9_firstMeeting
  have kc1 := L65535
  have kc2 := L0
  exact zX9_firstMeeting_9 sm_fu x1 (65535 : Int32) (0 : Int32) (0 : Int32) m (show 0 ≤ x1.toInt ∧ x1.toInt ≤ 99 ∧ (65535 : Int32).toInt ≤ 65535 ∧ 0 ≤ (0 : Int32).toInt ∧ (0 : Int32).toInt ≤ 9 ∧ 0 ≤ (0 : Int32).toInt ∧ (0 : Int32).toInt ≤ 30 ∧ 30 - (0 : Int32).toInt < (sm_fu : Int) by omega) hI
theorem zX11_meets (x1 : Int32) (m : sm_S) (hI : zI m) : Sf (fun r => (((-3 : Int) ≤ r.1.toInt) ∧ (r.1.toInt ≤ 134217727)) ∧ zI r.2 ∧ Fr wX11_meets m r.2) (fX11_meets x1 m) := by
  have hfu := fuE
  unfold fX11_meets
  have kc1 := L0
  refine s_lt (fun kh2 => ?_) (fun kh2 => ?_)
  · have kc3 := Ln1
    exact s_ret ⟨(show ((-3 : Int) ≤ (-1 : Int32).toInt) ∧ ((-1 : Int32).toInt ≤ 134217727) by omega), hI, Fr.refl⟩
  · have kc4 := L99
    refine s_le (fun kh5 => ?_) (fun kh5 => ?_)
    · refine s_bd (zX11_scheduleBoth m hI) (fun r2 kr6 => ?_)
      obtain ⟨kp7, ki8, kf9⟩ := kr6
      replace kp7 : (0 ≤ r2.1.toInt) ∧ (r2.1.toInt ≤ 1) := kp7
      refine s_eq (fun kh10 => ?_) (fun kh10 => ?_)
      · have kc11 := Ln3
        have kf12 : Fr wX11_meets m r2.2 := Fr.trans Fr.refl kf9 rfl
        exact s_ret ⟨(show ((-3 : Int) ≤ (-3 : Int32).toInt) ∧ ((-3 : Int32).toInt ≤ 134217727) by omega), ki8, kf12⟩
      · refine s_bd (zX9_firstMeeting x1 r2.2 (show 0 ≤ x1.toInt ∧ x1.toInt ≤ 99 by omega) ki8) (fun r4 kr13 => ?_)
        refine s_le (fun kh14 => ?_) (fun kh14 => ?_)
        · refine s_bd (zX5_tell (r4 &&& (15 : Int32)) r2.2 ki8) (fun m6 kr15 => ?_)
          obtain ⟨kp16, ki17, kf18⟩ := kr15
          have kc19 := L4
          have kc20 := L31
          have kc21 : 0 ≤ ((4 : Int32) &&& (31 : Int32)).toInt ∧ ((4 : Int32) &&& (31 : Int32)).toInt ≤ ((31 : Int32)).toInt := a_andr (by omega)
          have kc22 : 0 ≤ ((4 : Int32) &&& (31 : Int32)).toInt ∧ ((4 : Int32) &&& (31 : Int32)).toInt ≤ ((4 : Int32)).toInt := a_andl (by omega)
          have kc23 := rg r4
          have kc24 : (r4 >>> ((4 : Int32) &&& (31 : Int32))).toInt = (r4).toInt / 16 := a_shrE 4 (by decide) (by decide) (by decide)
          have kf25 : Fr wX11_meets m r2.2 := Fr.trans Fr.refl kf9 rfl
          have kf26 : Fr wX11_meets m m6 := Fr.trans kf25 kf18 rfl
          exact s_ret ⟨(show ((-3 : Int) ≤ (r4 >>> ((4 : Int32) &&& (31 : Int32))).toInt) ∧ ((r4 >>> ((4 : Int32) &&& (31 : Int32))).toInt ≤ 134217727) by omega), ki17, kf26⟩
        · have kc27 := Ln2
          have kf28 : Fr wX11_meets m r2.2 := Fr.trans Fr.refl kf9 rfl
          exact s_ret ⟨(show ((-3 : Int) ≤ (-2 : Int32).toInt) ∧ ((-2 : Int32).toInt ≤ 134217727) by omega), ki8, kf28⟩
    · have kc29 := Ln1
      exact s_ret ⟨(show ((-3 : Int) ≤ (-1 : Int32).toInt) ∧ ((-1 : Int32).toInt ≤ 134217727) by omega), hI, Fr.refl⟩
theorem zX11_apart_12 (m0 : sm_S) : ∀ (n : Nat) (v1 : Int32) (m : sm_S), (0 ≤ v1.toInt ∧ v1.toInt ≤ 100 ∧ 100 - v1.toInt < (n : Int)) → zI m → Fr wX11_apart m0 m → Sf (fun r => (((-3 : Int) ≤ r.1.toInt) ∧ (r.1.toInt ≤ 99)) ∧ zI r.2 ∧ Fr wX11_apart m0 r.2) (fX11_apart_12 n v1 m) := by
  intro n
  induction n with
  | zero =>
    intro v1 m hp hI hF
    exfalso
    omega
  | succ n ih =>
    intro v1 m hp hI hF
    have hnn : ((n + 1 : Nat) : Int) = (n : Int) + 1 := by omega
    have hfu := fuE
    unfold fX11_apart_12
    have kc1 := L99
    refine s_lt (fun kh2 => ?_) (fun kh2 => ?_)
    · have kc3 := Ln2
      exact s_ret ⟨(show ((-3 : Int) ≤ (-2 : Int32).toInt) ∧ ((-2 : Int32).toInt ≤ 99) by omega), hI, hF⟩
    · refine s_bd (zX9_firstMeeting v1 m (show 0 ≤ v1.toInt ∧ v1.toInt ≤ 99 by omega) hI) (fun r4 kr4 => ?_)
      have kc5 := L0
      refine s_le (fun kh6 => ?_) (fun kh6 => ?_)
      · have kc7 : (v1 + (1 : Int32)).toInt = (v1).toInt + 1 := a_addl L1 (by omega) (by omega)
        exact ih (v1 + (1 : Int32)) m (show 0 ≤ (v1 + (1 : Int32)).toInt ∧ (v1 + (1 : Int32)).toInt ≤ 100 ∧ 100 - (v1 + (1 : Int32)).toInt < (n : Int) by omega) hI hF
      · exact s_ret ⟨(show ((-3 : Int) ≤ v1.toInt) ∧ (v1.toInt ≤ 99) by omega), hI, hF⟩
theorem zX11_apart (m : sm_S) (hI : zI m) : Sf (fun r => (((-3 : Int) ≤ r.1.toInt) ∧ (r.1.toInt ≤ 99)) ∧ zI r.2 ∧ Fr wX11_apart m r.2) (fX11_apart m) := by
  have hfu := fuE
  unfold fX11_apart
  refine s_bd (zX11_scheduleBoth m hI) (fun r2 kr1 => ?_)
  obtain ⟨kp2, ki3, kf4⟩ := kr1
  replace kp2 : (0 ≤ r2.1.toInt) ∧ (r2.1.toInt ≤ 1) := kp2
  have kc5 := L0
  refine s_eq (fun kh6 => ?_) (fun kh6 => ?_)
  · have kc7 := Ln3
    have kf8 : Fr wX11_apart m r2.2 := Fr.trans Fr.refl kf4 rfl
    exact s_ret ⟨(show ((-3 : Int) ≤ (-3 : Int32).toInt) ∧ ((-3 : Int32).toInt ≤ 99) by omega), ki3, kf8⟩
  · have kf9 : Fr wX11_apart m r2.2 := Fr.trans Fr.refl kf4 rfl
    exact zX11_apart_12 m sm_fu (0 : Int32) r2.2 (show 0 ≤ (0 : Int32).toInt ∧ (0 : Int32).toInt ≤ 100 ∧ 100 - (0 : Int32).toInt < (sm_fu : Int) by omega) ki3 kf9
theorem zX11_walkersCorner (m : sm_S) (hI : zI m) : Sf (fun r => ((-1 : Int) ≤ r.toInt) ∧ (r.toInt ≤ 9)) (fX11_walkersCorner m) := by
  have hfu := fuE
  unfold fX11_walkersCorner
  have kc1 : 0 ≤ (m.1 3 0).toInt ∧ (m.1 3 0).toInt ≤ 10 := hI.1 3 0
  have kc2 := L0
  refine s_eq (fun kh3 => ?_) (fun kh3 => ?_)
  · have kc4 := Ln1
    exact s_ret (show ((-1 : Int) ≤ (-1 : Int32).toInt) ∧ ((-1 : Int32).toInt ≤ 9) by omega)
  · have kc5 : 0 ≤ (m.1 16 0).toInt ∧ (m.1 16 0).toInt ≤ 9 := hI.1 16 0
    exact s_ret (show ((-1 : Int) ≤ (m.1 16 0).toInt) ∧ ((m.1 16 0).toInt ≤ 9) by omega)
theorem zX6_toNextDay (m : sm_S) (hI : zI m) : Sf (fun r => ((0 ≤ r.1.toInt) ∧ (r.1.toInt ≤ 1)) ∧ zI r.2 ∧ Fr wX6_toNextDay m r.2) (fX6_toNextDay m) := by
  have hfu := fuE
  unfold fX6_toNextDay
  refine s_bd (zX6_day m hI) (fun r2 kr1 => ?_)
  have kc2 := L60
  have kc3 : 0 ≤ (m.1 3 3).toInt ∧ (m.1 3 3).toInt ≤ 9999 := hI.1 3 3
  refine s_le (fun kh4 => ?_) (fun kh4 => ?_)
  · have kc5 := L1
    have ki6 : zI (sm_w1 m 16 1 ((r2 + (1 : Int32)) * (60 : Int32))) := zI.w hI rfl (rg _)
    have kf7 : Fr wX6_toNextDay m (sm_w1 m 16 1 ((r2 + (1 : Int32)) * (60 : Int32))) := Fr.w Fr.refl rfl
    exact s_ret ⟨(show (0 ≤ (1 : Int32).toInt) ∧ ((1 : Int32).toInt ≤ 1) by omega), ki6, kf7⟩
  · have kc8 := L0
    have kc9 : (((m.1 16 1)).toInt < ((m.1 3 3)).toInt ∧ (if (m.1 16 1) < (m.1 3 3) then (m.1 3 3) else (m.1 16 1)).toInt = ((m.1 3 3)).toInt) ∨ (((m.1 3 3)).toInt ≤ ((m.1 16 1)).toInt ∧ (if (m.1 16 1) < (m.1 3 3) then (m.1 3 3) else (m.1 16 1)).toInt = ((m.1 16 1)).toInt) := a_ilt
    have ki10 : zI (sm_w1 m 16 1 (if (m.1 16 1) < (m.1 3 3) then (m.1 3 3) else (m.1 16 1))) := zI.w hI rfl (rg _)
    have kf11 : Fr wX6_toNextDay m (sm_w1 m 16 1 (if (m.1 16 1) < (m.1 3 3) then (m.1 3 3) else (m.1 16 1))) := Fr.w Fr.refl rfl
    exact s_ret ⟨(show (0 ≤ (0 : Int32).toInt) ∧ ((0 : Int32).toInt ≤ 1) by omega), ki10, kf11⟩
theorem zX6_dearest_4 : ∀ (n : Nat) (v2 : Int32) (v3 : Int32) (m : sm_S), ((-1 : Int) ≤ v2.toInt ∧ v2.toInt ≤ 13 ∧ 0 ≤ v3.toInt ∧ v3.toInt ≤ 14 ∧ 14 - v3.toInt < (n : Int)) → zI m → Sf (fun r => ((-1 : Int) ≤ r.toInt) ∧ (r.toInt ≤ 13)) (fX6_dearest_4 n v2 v3 m) := by
  intro n
  induction n with
  | zero =>
    intro v2 v3 m hp hI
    exfalso
    omega
  | succ n ih =>
    intro v2 v3 m hp hI
    have hnn : ((n + 1 : Nat) : Int) = (n : Int) + 1 := by omega
    have hfu := fuE
    unfold fX6_dearest_4
    have kc1 : 0 ≤ (m.1 3 1).toInt ∧ (m.1 3 1).toInt ≤ 14 := hI.1 3 1
    refine s_le (fun kh2 => ?_) (fun kh2 => ?_)
    · exact s_ret (show ((-1 : Int) ≤ v2.toInt) ∧ (v2.toInt ≤ 13) by omega)
    · have kc3 := Ln1
      refine s_eq (fun kh4 => ?_) (fun kh4 => ?_)
      · refine s_bd (zX6_whyNot v3 m (show 0 ≤ v3.toInt ∧ v3.toInt ≤ 13 by omega) hI) (fun r2 kr5 => ?_)
        replace kr5 : ((-5 : Int) ≤ r2.toInt) ∧ (r2.toInt ≤ 0) := kr5
        have kc6 := L0
        refine s_eq (fun kh7 => ?_) (fun kh7 => ?_)
        · have kc8 : (v3 + (1 : Int32)).toInt = (v3).toInt + 1 := a_addl L1 (by omega) (by omega)
          exact ih v3 (v3 + (1 : Int32)) m (show (-1 : Int) ≤ v3.toInt ∧ v3.toInt ≤ 13 ∧ 0 ≤ (v3 + (1 : Int32)).toInt ∧ (v3 + (1 : Int32)).toInt ≤ 14 ∧ 14 - (v3 + (1 : Int32)).toInt < (n : Int) by omega) hI
        · have kc9 : (v3 + (1 : Int32)).toInt = (v3).toInt + 1 := a_addl L1 (by omega) (by omega)
          exact ih v2 (v3 + (1 : Int32)) m (show (-1 : Int) ≤ v2.toInt ∧ v2.toInt ≤ 13 ∧ 0 ≤ (v3 + (1 : Int32)).toInt ∧ (v3 + (1 : Int32)).toInt ≤ 14 ∧ 14 - (v3 + (1 : Int32)).toInt < (n : Int) by omega) hI
      · have kx10 : 0 ≤ (v3).toInt ∧ (v3).toInt < (14 : Int) := by omega
        refine s_ix kx10 ?_
        have kx11 : 0 ≤ (v2).toInt ∧ (v2).toInt < (14 : Int) := by omega
        refine s_ix kx11 ?_
        have kc12 : 0 ≤ (m.1 11 (v3).toNatClampNeg).toInt ∧ (m.1 11 (v3).toNatClampNeg).toInt ≤ 9 := hI.1 11 (v3).toNatClampNeg
        have kc13 : 0 ≤ (m.1 11 (v2).toNatClampNeg).toInt ∧ (m.1 11 (v2).toNatClampNeg).toInt ≤ 9 := hI.1 11 (v2).toNatClampNeg
        refine s_le (fun kh14 => ?_) (fun kh14 => ?_)
        · have kc15 : (v3 + (1 : Int32)).toInt = (v3).toInt + 1 := a_addl L1 (by omega) (by omega)
          exact ih v2 (v3 + (1 : Int32)) m (show (-1 : Int) ≤ v2.toInt ∧ v2.toInt ≤ 13 ∧ 0 ≤ (v3 + (1 : Int32)).toInt ∧ (v3 + (1 : Int32)).toInt ≤ 14 ∧ 14 - (v3 + (1 : Int32)).toInt < (n : Int) by omega) hI
        · refine s_bd (zX6_whyNot v3 m (show 0 ≤ v3.toInt ∧ v3.toInt ≤ 13 by omega) hI) (fun r6 kr16 => ?_)
          replace kr16 : ((-5 : Int) ≤ r6.toInt) ∧ (r6.toInt ≤ 0) := kr16
          have kc17 := L0
          refine s_eq (fun kh18 => ?_) (fun kh18 => ?_)
          · have kc19 : (v3 + (1 : Int32)).toInt = (v3).toInt + 1 := a_addl L1 (by omega) (by omega)
            exact ih v3 (v3 + (1 : Int32)) m (show (-1 : Int) ≤ v3.toInt ∧ v3.toInt ≤ 13 ∧ 0 ≤ (v3 + (1 : Int32)).toInt ∧ (v3 + (1 : Int32)).toInt ≤ 14 ∧ 14 - (v3 + (1 : Int32)).toInt < (n : Int) by omega) hI
          · have kc20 : (v3 + (1 : Int32)).toInt = (v3).toInt + 1 := a_addl L1 (by omega) (by omega)
            exact ih v2 (v3 + (1 : Int32)) m (show (-1 : Int) ≤ v2.toInt ∧ v2.toInt ≤ 13 ∧ 0 ≤ (v3 + (1 : Int32)).toInt ∧ (v3 + (1 : Int32)).toInt ≤ 14 ∧ 14 - (v3 + (1 : Int32)).toInt < (n : Int) by omega) hI
theorem zX6_dearest (m : sm_S) (hI : zI m) : Sf (fun r => ((-1 : Int) ≤ r.toInt) ∧ (r.toInt ≤ 13)) (fX6_dearest m) := by
  have hfu := fuE
  unfold fX6_dearest
  have kc1 := Ln1
  have kc2 := L0
  exact zX6_dearest_4 sm_fu (-1 : Int32) (0 : Int32) m (show (-1 : Int) ≤ (-1 : Int32).toInt ∧ (-1 : Int32).toInt ≤ 13 ∧ 0 ≤ (0 : Int32).toInt ∧ (0 : Int32).toInt ≤ 14 ∧ 14 - (0 : Int32).toInt < (sm_fu : Int) by omega) hI
theorem zX11_season_61 (m0 : sm_S) : ∀ (n : Nat) (v1 : Int32) (v2 : Int32) (v3 : Int32) (v4 : Int32) (v5 : Int32) (v6 : Int32) (m : sm_S), (0 ≤ v1.toInt ∧ v1.toInt ≤ 60 ∧ 0 ≤ v4.toInt ∧ v4.toInt ≤ 60 ∧ 0 ≤ v5.toInt ∧ v5.toInt ≤ 1 ∧ 0 ≤ v6.toInt ∧ v6.toInt ≤ 10060 ∧ 10060 - v6.toInt < (n : Int)) → zI m → Fr wX11_season m0 m → Sf (fun r => (True) ∧ zI r.2 ∧ Fr wX11_season m0 r.2) (fX11_season_61 n v1 v2 v3 v4 v5 v6 m) := by
  intro n
  induction n with
  | zero =>
    intro v1 v2 v3 v4 v5 v6 m hp hI hF
    exfalso
    omega
  | succ n ih =>
    intro v1 v2 v3 v4 v5 v6 m hp hI hF
    have hnn : ((n + 1 : Nat) : Int) = (n : Int) + 1 := by omega
    have hfu := fuE
    unfold fX11_season_61
    have kc1 := L10059
    refine s_lt (fun kh2 => ?_) (fun kh2 => ?_)
    · refine s_bd (zX5_tell v3 m hI) (fun m4 kr3 => ?_)
      obtain ⟨kp4, ki5, kf6⟩ := kr3
      refine s_bd (zX11_walkersCorner m4 ki5) (fun r6 kr7 => ?_)
      replace kr7 : ((-1 : Int) ≤ r6.toInt) ∧ (r6.toInt ≤ 9) := kr7
      refine s_bd (zX5_add r6 m4 ki5) (fun m8 kr8 => ?_)
      obtain ⟨kp9, ki10, kf11⟩ := kr8
      have kf12 : Fr wX11_season m0 m4 := Fr.trans hF kf6 rfl
      have kf13 : Fr wX11_season m0 m8 := Fr.trans kf12 kf11 rfl
      exact s_ret ⟨trivial, ki10, kf13⟩
    · have kc14 := L0
      refine s_eq (fun kh15 => ?_) (fun kh15 => ?_)
      · refine s_bd (zX5_tell v3 m hI) (fun m10 kr16 => ?_)
        obtain ⟨kp17, ki18, kf19⟩ := kr16
        refine s_bd (zX11_walkersCorner m10 ki18) (fun r12 kr20 => ?_)
        replace kr20 : ((-1 : Int) ≤ r12.toInt) ∧ (r12.toInt ≤ 9) := kr20
        refine s_bd (zX5_add r12 m10 ki18) (fun m14 kr21 => ?_)
        obtain ⟨kp22, ki23, kf24⟩ := kr21
        have kf25 : Fr wX11_season m0 m10 := Fr.trans hF kf19 rfl
        have kf26 : Fr wX11_season m0 m14 := Fr.trans kf25 kf24 rfl
        exact s_ret ⟨trivial, ki23, kf26⟩
      · refine s_le (fun kh27 => ?_) (fun kh27 => ?_)
        · refine s_bd (zX5_tell v3 m hI) (fun m16 kr28 => ?_)
          obtain ⟨kp29, ki30, kf31⟩ := kr28
          refine s_bd (zX11_walkersCorner m16 ki30) (fun r18 kr32 => ?_)
          replace kr32 : ((-1 : Int) ≤ r18.toInt) ∧ (r18.toInt ≤ 9) := kr32
          refine s_bd (zX5_add r18 m16 ki30) (fun m20 kr33 => ?_)
          obtain ⟨kp34, ki35, kf36⟩ := kr33
          have kf37 : Fr wX11_season m0 m16 := Fr.trans hF kf31 rfl
          have kf38 : Fr wX11_season m0 m20 := Fr.trans kf37 kf36 rfl
          exact s_ret ⟨trivial, ki35, kf38⟩
        · refine s_bd (zX6_isLight m hI) (fun r22 kr39 => ?_)
          replace kr39 : (0 ≤ r22.toInt) ∧ (r22.toInt ≤ 1) := kr39
          refine s_eq (fun kh40 => ?_) (fun kh40 => ?_)
          · refine s_bd (zX6_toNextDay m hI) (fun r24 kr41 => ?_)
            obtain ⟨kp42, ki43, kf44⟩ := kr41
            replace kp42 : (0 ≤ r24.1.toInt) ∧ (r24.1.toInt ≤ 1) := kp42
            have kc45 : (v4 + (1 : Int32)).toInt = (v4).toInt + 1 := a_addl L1 (by omega) (by omega)
            have kc46 : (v6 + (1 : Int32)).toInt = (v6).toInt + 1 := a_addl L1 (by omega) (by omega)
            have kf47 : Fr wX11_season m0 r24.2 := Fr.trans hF kf44 rfl
            exact ih v1 v2 v3 (v4 + (1 : Int32)) r24.1 (v6 + (1 : Int32)) r24.2 (show 0 ≤ v1.toInt ∧ v1.toInt ≤ 60 ∧ 0 ≤ (v4 + (1 : Int32)).toInt ∧ (v4 + (1 : Int32)).toInt ≤ 60 ∧ 0 ≤ (r24.1).toInt ∧ (r24.1).toInt ≤ 1 ∧ 0 ≤ (v6 + (1 : Int32)).toInt ∧ (v6 + (1 : Int32)).toInt ≤ 10060 ∧ 10060 - (v6 + (1 : Int32)).toInt < (n : Int) by omega) ki43 kf47
          · refine s_bd (zX6_dearest m hI) (fun r26 kr48 => ?_)
            replace kr48 : ((-1 : Int) ≤ r26.toInt) ∧ (r26.toInt ≤ 13) := kr48
            have kc49 := Ln1
            refine s_eq (fun kh50 => ?_) (fun kh50 => ?_)
            · refine s_bd (zX6_toNextDay m hI) (fun r31 kr51 => ?_)
              obtain ⟨kp52, ki53, kf54⟩ := kr51
              replace kp52 : (0 ≤ r31.1.toInt) ∧ (r31.1.toInt ≤ 1) := kp52
              have kc55 : (v4 + (1 : Int32)).toInt = (v4).toInt + 1 := a_addl L1 (by omega) (by omega)
              have kc56 : (v6 + (1 : Int32)).toInt = (v6).toInt + 1 := a_addl L1 (by omega) (by omega)
              have kf57 : Fr wX11_season m0 r31.2 := Fr.trans hF kf54 rfl
              exact ih v1 v2 v3 (v4 + (1 : Int32)) r31.1 (v6 + (1 : Int32)) r31.2 (show 0 ≤ v1.toInt ∧ v1.toInt ≤ 60 ∧ 0 ≤ (v4 + (1 : Int32)).toInt ∧ (v4 + (1 : Int32)).toInt ≤ 60 ∧ 0 ≤ (r31.1).toInt ∧ (r31.1).toInt ≤ 1 ∧ 0 ≤ (v6 + (1 : Int32)).toInt ∧ (v6 + (1 : Int32)).toInt ≤ 10060 ∧ 10060 - (v6 + (1 : Int32)).toInt < (n : Int) by omega) ki53 kf57
            · refine s_bd (zX6_step r26 m (show 0 ≤ r26.toInt ∧ r26.toInt ≤ 13 by omega) hI) (fun r28 kr58 => ?_)
              obtain ⟨kp59, ki60, kf61⟩ := kr58
              replace kp59 : (0 ≤ r28.1.toInt) ∧ (r28.1.toInt ≤ 29) := kp59
              have kx62 : 0 ≤ (r26).toInt ∧ (r26).toInt < (14 : Int) := by omega
              refine s_ix kx62 ?_
              have kc63 : 0 ≤ (r28.2.1 11 (r26).toNatClampNeg).toInt ∧ (r28.2.1 11 (r26).toNatClampNeg).toInt ≤ 9 := ki60.1 11 (r26).toNatClampNeg
              have kc64 : (r28.2.1 11 (r26).toNatClampNeg).toInt = (m.1 11 (r26).toNatClampNeg).toInt := congrArg Int32.toInt (kf61 11 (r26).toNatClampNeg rfl)
              have kc65 : 0 ≤ (m.1 11 (r26).toNatClampNeg).toInt ∧ (m.1 11 (r26).toNatClampNeg).toInt ≤ 9 := hI.1 11 (r26).toNatClampNeg
              have kc66 : (v6 + (1 : Int32)).toInt = (v6).toInt + 1 := a_addl L1 (by omega) (by omega)
              have kf67 : Fr wX11_season m0 r28.2 := Fr.trans hF kf61 rfl
              exact ih v1 (v2 + (1 : Int32)) (v3 + (r28.2.1 11 (r26).toNatClampNeg)) v4 v5 (v6 + (1 : Int32)) r28.2 (show 0 ≤ v1.toInt ∧ v1.toInt ≤ 60 ∧ 0 ≤ v4.toInt ∧ v4.toInt ≤ 60 ∧ 0 ≤ v5.toInt ∧ v5.toInt ≤ 1 ∧ 0 ≤ (v6 + (1 : Int32)).toInt ∧ (v6 + (1 : Int32)).toInt ≤ 10060 ∧ 10060 - (v6 + (1 : Int32)).toInt < (n : Int) by omega) ki60 kf67
theorem zX11_season (x1 : Int32) (m : sm_S) (hI : zI m) : Sf (fun r => (True) ∧ zI r.2 ∧ Fr wX11_season m r.2) (fX11_season x1 m) := by
  have hfu := fuE
  unfold fX11_season
  have kc1 := L0
  refine s_lt (fun kh2 => ?_) (fun kh2 => ?_)
  · have kc3 := Ln1
    exact s_ret ⟨trivial, hI, Fr.refl⟩
  · have kc4 := L60
    refine s_le (fun kh5 => ?_) (fun kh5 => ?_)
    · have ki6 : zI (sm_w1 m 20 0 (0 : Int32)) := zI.w hI rfl (show 0 ≤ ((0 : Int32)).toInt ∧ ((0 : Int32)).toInt ≤ 30 by omega)
      refine s_bd (zX6_isLight (sm_w1 m 20 0 (0 : Int32)) ki6) (fun r2 kr7 => ?_)
      replace kr7 : (0 ≤ r2.toInt) ∧ (r2.toInt ≤ 1) := kr7
      refine s_eq (fun kh8 => ?_) (fun kh8 => ?_)
      · refine s_bd (zX6_toNextDay (sm_w1 m 20 0 (0 : Int32)) ki6) (fun r33 kr9 => ?_)
        obtain ⟨kp10, ki11, kf12⟩ := kr9
        replace kp10 : (0 ≤ r33.1.toInt) ∧ (r33.1.toInt ≤ 1) := kp10
        refine s_eq (fun kh13 => ?_) (fun kh13 => ?_)
        · have kf14 : Fr wX11_season m (sm_w1 m 20 0 (0 : Int32)) := Fr.w Fr.refl rfl
          have kf15 : Fr wX11_season m r33.2 := Fr.trans kf14 kf12 rfl
          exact zX11_season_61 m sm_fu x1 (0 : Int32) (0 : Int32) (0 : Int32) (0 : Int32) (0 : Int32) r33.2 (show 0 ≤ x1.toInt ∧ x1.toInt ≤ 60 ∧ 0 ≤ (0 : Int32).toInt ∧ (0 : Int32).toInt ≤ 60 ∧ 0 ≤ (0 : Int32).toInt ∧ (0 : Int32).toInt ≤ 1 ∧ 0 ≤ (0 : Int32).toInt ∧ (0 : Int32).toInt ≤ 10060 ∧ 10060 - (0 : Int32).toInt < (sm_fu : Int) by omega) ki11 kf15
        · have kc16 := L1
          have kf17 : Fr wX11_season m (sm_w1 m 20 0 (0 : Int32)) := Fr.w Fr.refl rfl
          have kf18 : Fr wX11_season m r33.2 := Fr.trans kf17 kf12 rfl
          exact zX11_season_61 m sm_fu x1 (0 : Int32) (0 : Int32) (0 : Int32) (1 : Int32) (0 : Int32) r33.2 (show 0 ≤ x1.toInt ∧ x1.toInt ≤ 60 ∧ 0 ≤ (0 : Int32).toInt ∧ (0 : Int32).toInt ≤ 60 ∧ 0 ≤ (1 : Int32).toInt ∧ (1 : Int32).toInt ≤ 1 ∧ 0 ≤ (0 : Int32).toInt ∧ (0 : Int32).toInt ≤ 10060 ∧ 10060 - (0 : Int32).toInt < (sm_fu : Int) by omega) ki11 kf18
      · have kc19 := L1
        have kf20 : Fr wX11_season m (sm_w1 m 20 0 (0 : Int32)) := Fr.w Fr.refl rfl
        exact zX11_season_61 m sm_fu x1 (0 : Int32) (0 : Int32) (0 : Int32) (1 : Int32) (0 : Int32) (sm_w1 m 20 0 (0 : Int32)) (show 0 ≤ x1.toInt ∧ x1.toInt ≤ 60 ∧ 0 ≤ (0 : Int32).toInt ∧ (0 : Int32).toInt ≤ 60 ∧ 0 ≤ (1 : Int32).toInt ∧ (1 : Int32).toInt ≤ 1 ∧ 0 ≤ (0 : Int32).toInt ∧ (0 : Int32).toInt ≤ 10060 ∧ 10060 - (0 : Int32).toInt < (sm_fu : Int) by omega) ki6 kf20
    · have kc21 := Ln1
      exact s_ret ⟨trivial, hI, Fr.refl⟩
theorem zX2_everyHedge (m : sm_S) (hI : zI m) : Sf (fun r => (0 ≤ r.toInt) ∧ (r.toInt ≤ 16383)) (fX2_everyHedge m) := by
  have hfu := fuE
  unfold fX2_everyHedge
  have kc1 := L1
  have kc2 : 0 ≤ (m.1 3 1).toInt ∧ (m.1 3 1).toInt ≤ 14 := hI.1 3 1
  have kc3 := L31
  have kc4 : 0 ≤ ((m.1 3 1) &&& (31 : Int32)).toInt ∧ ((m.1 3 1) &&& (31 : Int32)).toInt ≤ ((31 : Int32)).toInt := a_andr (by omega)
  have kc5 : 0 ≤ ((m.1 3 1) &&& (31 : Int32)).toInt ∧ ((m.1 3 1) &&& (31 : Int32)).toInt ≤ ((m.1 3 1)).toInt := a_andl (by omega)
  have kc6 : 1 ≤ ((1 : Int32) <<< ((m.1 3 1) &&& (31 : Int32))).toInt ∧ ((1 : Int32) <<< ((m.1 3 1) &&& (31 : Int32))).toInt ≤ 16384 := a_shl 14 (by decide) (by decide) (by omega) (by omega)
  have kc7 : (((1 : Int32) <<< ((m.1 3 1) &&& (31 : Int32))) - (1 : Int32)).toInt = (((1 : Int32) <<< ((m.1 3 1) &&& (31 : Int32)))).toInt - 1 := a_subl L1 (by omega) (by omega)
  exact s_ret (show (0 ≤ (((1 : Int32) <<< ((m.1 3 1) &&& (31 : Int32))) - (1 : Int32)).toInt) ∧ ((((1 : Int32) <<< ((m.1 3 1) &&& (31 : Int32))) - (1 : Int32)).toInt ≤ 16383) by omega)
theorem zX2_endsOf (x1 : Int32) (m : sm_S) (hp : 0 ≤ x1.toInt ∧ x1.toInt ≤ 13) (hI : zI m) : Sf (fun r => (0 ≤ r.toInt) ∧ (r.toInt ≤ 1023)) (fX2_endsOf x1 m) := by
  have hfu := fuE
  unfold fX2_endsOf
  have kx1 : 0 ≤ (x1).toInt ∧ (x1).toInt < (14 : Int) := by omega
  refine s_ix kx1 ?_
  refine s_ix kx1 ?_
  have kc2 := L1
  have kc3 : 0 ≤ (m.1 6 (x1).toNatClampNeg).toInt ∧ (m.1 6 (x1).toNatClampNeg).toInt ≤ 9 := hI.1 6 (x1).toNatClampNeg
  have kc4 := L31
  have kc5 : 0 ≤ ((m.1 6 (x1).toNatClampNeg) &&& (31 : Int32)).toInt ∧ ((m.1 6 (x1).toNatClampNeg) &&& (31 : Int32)).toInt ≤ ((31 : Int32)).toInt := a_andr (by omega)
  have kc6 : 0 ≤ ((m.1 6 (x1).toNatClampNeg) &&& (31 : Int32)).toInt ∧ ((m.1 6 (x1).toNatClampNeg) &&& (31 : Int32)).toInt ≤ ((m.1 6 (x1).toNatClampNeg)).toInt := a_andl (by omega)
  have kc7 : 1 ≤ ((1 : Int32) <<< ((m.1 6 (x1).toNatClampNeg) &&& (31 : Int32))).toInt ∧ ((1 : Int32) <<< ((m.1 6 (x1).toNatClampNeg) &&& (31 : Int32))).toInt ≤ 512 := a_shl 9 (by decide) (by decide) (by omega) (by omega)
  have kc8 : 0 ≤ (m.1 7 (x1).toNatClampNeg).toInt ∧ (m.1 7 (x1).toNatClampNeg).toInt ≤ 9 := hI.1 7 (x1).toNatClampNeg
  have kc9 : 0 ≤ ((m.1 7 (x1).toNatClampNeg) &&& (31 : Int32)).toInt ∧ ((m.1 7 (x1).toNatClampNeg) &&& (31 : Int32)).toInt ≤ ((31 : Int32)).toInt := a_andr (by omega)
  have kc10 : 0 ≤ ((m.1 7 (x1).toNatClampNeg) &&& (31 : Int32)).toInt ∧ ((m.1 7 (x1).toNatClampNeg) &&& (31 : Int32)).toInt ≤ ((m.1 7 (x1).toNatClampNeg)).toInt := a_andl (by omega)
  have kc11 : 1 ≤ ((1 : Int32) <<< ((m.1 7 (x1).toNatClampNeg) &&& (31 : Int32))).toInt ∧ ((1 : Int32) <<< ((m.1 7 (x1).toNatClampNeg) &&& (31 : Int32))).toInt ≤ 512 := a_shl 9 (by decide) (by decide) (by omega) (by omega)
  have kc12 : 0 ≤ (((1 : Int32) <<< ((m.1 6 (x1).toNatClampNeg) &&& (31 : Int32))) ||| ((1 : Int32) <<< ((m.1 7 (x1).toNatClampNeg) &&& (31 : Int32)))).toInt ∧ (((1 : Int32) <<< ((m.1 6 (x1).toNatClampNeg) &&& (31 : Int32))) ||| ((1 : Int32) <<< ((m.1 7 (x1).toNatClampNeg) &&& (31 : Int32)))).toInt < 1024 := a_or 10 (by decide) (by decide) (by omega) (by omega) (by omega) (by omega)
  exact s_ret (show (0 ≤ (((1 : Int32) <<< ((m.1 6 (x1).toNatClampNeg) &&& (31 : Int32))) ||| ((1 : Int32) <<< ((m.1 7 (x1).toNatClampNeg) &&& (31 : Int32)))).toInt) ∧ ((((1 : Int32) <<< ((m.1 6 (x1).toNatClampNeg) &&& (31 : Int32))) ||| ((1 : Int32) <<< ((m.1 7 (x1).toNatClampNeg) &&& (31 : Int32)))).toInt ≤ 1023) by omega)
theorem zX2_oddCorners_4 : ∀ (n : Nat) (v1 : Int32) (v2 : Int32) (v3 : Int32) (m : sm_S), (0 ≤ v1.toInt ∧ v1.toInt ≤ 16383 ∧ 0 ≤ v2.toInt ∧ v2.toInt ≤ 1023 ∧ 0 ≤ v3.toInt ∧ v3.toInt ≤ 14 ∧ 14 - v3.toInt < (n : Int)) → zI m → Sf (fun r => (0 ≤ r.toInt) ∧ (r.toInt ≤ 1023)) (fX2_oddCorners_4 n v1 v2 v3 m) := by
  intro n
  induction n with
  | zero =>
    intro v1 v2 v3 m hp hI
    exfalso
    omega
  | succ n ih =>
    intro v1 v2 v3 m hp hI
    have hnn : ((n + 1 : Nat) : Int) = (n : Int) + 1 := by omega
    have hfu := fuE
    unfold fX2_oddCorners_4
    have kc1 : 0 ≤ (m.1 3 1).toInt ∧ (m.1 3 1).toInt ≤ 14 := hI.1 3 1
    refine s_le (fun kh2 => ?_) (fun kh2 => ?_)
    · exact s_ret (show (0 ≤ v2.toInt) ∧ (v2.toInt ≤ 1023) by omega)
    · have kc3 := L31
      have kc4 : 0 ≤ (v3 &&& (31 : Int32)).toInt ∧ (v3 &&& (31 : Int32)).toInt ≤ ((31 : Int32)).toInt := a_andr (by omega)
      have kc5 : 0 ≤ (v3 &&& (31 : Int32)).toInt ∧ (v3 &&& (31 : Int32)).toInt ≤ (v3).toInt := a_andl (by omega)
      have kc6 : 0 ≤ (v1 >>> (v3 &&& (31 : Int32))).toInt ∧ (v1 >>> (v3 &&& (31 : Int32))).toInt ≤ (v1).toInt := a_shr (by omega)
      have kc7 := L1
      have kc8 : 0 ≤ ((v1 >>> (v3 &&& (31 : Int32))) &&& (1 : Int32)).toInt ∧ ((v1 >>> (v3 &&& (31 : Int32))) &&& (1 : Int32)).toInt ≤ ((1 : Int32)).toInt := a_andr (by omega)
      have kc9 : 0 ≤ ((v1 >>> (v3 &&& (31 : Int32))) &&& (1 : Int32)).toInt ∧ ((v1 >>> (v3 &&& (31 : Int32))) &&& (1 : Int32)).toInt ≤ ((v1 >>> (v3 &&& (31 : Int32)))).toInt := a_andl (by omega)
      have kc10 := L0
      refine s_eq (fun kh11 => ?_) (fun kh11 => ?_)
      · have kc12 : (v3 + (1 : Int32)).toInt = (v3).toInt + 1 := a_addl L1 (by omega) (by omega)
        exact ih v1 v2 (v3 + (1 : Int32)) m (show 0 ≤ v1.toInt ∧ v1.toInt ≤ 16383 ∧ 0 ≤ v2.toInt ∧ v2.toInt ≤ 1023 ∧ 0 ≤ (v3 + (1 : Int32)).toInt ∧ (v3 + (1 : Int32)).toInt ≤ 14 ∧ 14 - (v3 + (1 : Int32)).toInt < (n : Int) by omega) hI
      · refine s_bd (zX2_endsOf v3 m (show 0 ≤ v3.toInt ∧ v3.toInt ≤ 13 by omega) hI) (fun r2 kr13 => ?_)
        replace kr13 : (0 ≤ r2.toInt) ∧ (r2.toInt ≤ 1023) := kr13
        have kc14 : 0 ≤ (v2 ^^^ r2).toInt ∧ (v2 ^^^ r2).toInt < 1024 := a_xor 10 (by decide) (by decide) (by omega) (by omega) (by omega) (by omega)
        have kc15 : (v3 + (1 : Int32)).toInt = (v3).toInt + 1 := a_addl L1 (by omega) (by omega)
        exact ih v1 (v2 ^^^ r2) (v3 + (1 : Int32)) m (show 0 ≤ v1.toInt ∧ v1.toInt ≤ 16383 ∧ 0 ≤ (v2 ^^^ r2).toInt ∧ (v2 ^^^ r2).toInt ≤ 1023 ∧ 0 ≤ (v3 + (1 : Int32)).toInt ∧ (v3 + (1 : Int32)).toInt ≤ 14 ∧ 14 - (v3 + (1 : Int32)).toInt < (n : Int) by omega) hI
theorem zX2_oddCorners (x1 : Int32) (m : sm_S) (hp : 0 ≤ x1.toInt ∧ x1.toInt ≤ 16383) (hI : zI m) : Sf (fun r => (0 ≤ r.toInt) ∧ (r.toInt ≤ 1023)) (fX2_oddCorners x1 m) := by
  have hfu := fuE
  unfold fX2_oddCorners
  have kc1 := L0
  exact zX2_oddCorners_4 sm_fu x1 (0 : Int32) (0 : Int32) m (show 0 ≤ x1.toInt ∧ x1.toInt ≤ 16383 ∧ 0 ≤ (0 : Int32).toInt ∧ (0 : Int32).toInt ≤ 1023 ∧ 0 ≤ (0 : Int32).toInt ∧ (0 : Int32).toInt ≤ 14 ∧ 14 - (0 : Int32).toInt < (sm_fu : Int) by omega) hI
theorem zJ6_bitCount_0f7a4 (x1 : Int32) (m : sm_S) (hp : 0 ≤ x1.toInt ∧ x1.toInt ≤ 16383) (hI : zI m) : Sf (fun r => (0 ≤ r.toInt) ∧ (r.toInt ≤ 63)) (fJ6_bitCount_0f7a4 x1 m) := by
  have hfu := fuE
  unfold fJ6_bitCount_0f7a4
  have kc1 := L1431655765
  have kc2 : 0 ≤ ((((x1).toUInt32 >>> (((1 : Int32)).toUInt32 &&& ((31 : Int32)).toUInt32))).toInt32 &&& (1431655765 : Int32)).toInt ∧ ((((x1).toUInt32 >>> (((1 : Int32)).toUInt32 &&& ((31 : Int32)).toUInt32))).toInt32 &&& (1431655765 : Int32)).toInt ≤ ((1431655765 : Int32)).toInt := a_andr (by omega)
  have kc3 : (x1 - ((((x1).toUInt32 >>> (((1 : Int32)).toUInt32 &&& ((31 : Int32)).toUInt32))).toInt32 &&& (1431655765 : Int32))).toInt = (x1).toInt - (((((x1).toUInt32 >>> (((1 : Int32)).toUInt32 &&& ((31 : Int32)).toUInt32))).toInt32 &&& (1431655765 : Int32))).toInt := a_sub (by omega) (by omega)
  have kc4 := L858993459
  have kc5 : 0 ≤ ((x1 - ((((x1).toUInt32 >>> (((1 : Int32)).toUInt32 &&& ((31 : Int32)).toUInt32))).toInt32 &&& (1431655765 : Int32))) &&& (858993459 : Int32)).toInt ∧ ((x1 - ((((x1).toUInt32 >>> (((1 : Int32)).toUInt32 &&& ((31 : Int32)).toUInt32))).toInt32 &&& (1431655765 : Int32))) &&& (858993459 : Int32)).toInt ≤ ((858993459 : Int32)).toInt := a_andr (by omega)
  have kc6 : 0 ≤ (((((x1 - ((((x1).toUInt32 >>> (((1 : Int32)).toUInt32 &&& ((31 : Int32)).toUInt32))).toInt32 &&& (1431655765 : Int32)))).toUInt32 >>> (((2 : Int32)).toUInt32 &&& ((31 : Int32)).toUInt32))).toInt32 &&& (858993459 : Int32)).toInt ∧ (((((x1 - ((((x1).toUInt32 >>> (((1 : Int32)).toUInt32 &&& ((31 : Int32)).toUInt32))).toInt32 &&& (1431655765 : Int32)))).toUInt32 >>> (((2 : Int32)).toUInt32 &&& ((31 : Int32)).toUInt32))).toInt32 &&& (858993459 : Int32)).toInt ≤ ((858993459 : Int32)).toInt := a_andr (by omega)
  have kc7 : (((x1 - ((((x1).toUInt32 >>> (((1 : Int32)).toUInt32 &&& ((31 : Int32)).toUInt32))).toInt32 &&& (1431655765 : Int32))) &&& (858993459 : Int32)) + (((((x1 - ((((x1).toUInt32 >>> (((1 : Int32)).toUInt32 &&& ((31 : Int32)).toUInt32))).toInt32 &&& (1431655765 : Int32)))).toUInt32 >>> (((2 : Int32)).toUInt32 &&& ((31 : Int32)).toUInt32))).toInt32 &&& (858993459 : Int32))).toInt = (((x1 - ((((x1).toUInt32 >>> (((1 : Int32)).toUInt32 &&& ((31 : Int32)).toUInt32))).toInt32 &&& (1431655765 : Int32))) &&& (858993459 : Int32))).toInt + ((((((x1 - ((((x1).toUInt32 >>> (((1 : Int32)).toUInt32 &&& ((31 : Int32)).toUInt32))).toInt32 &&& (1431655765 : Int32)))).toUInt32 >>> (((2 : Int32)).toUInt32 &&& ((31 : Int32)).toUInt32))).toInt32 &&& (858993459 : Int32))).toInt := a_add (by omega) (by omega)
  have kc8 := L252645135
  have kc9 : 0 ≤ (((((x1 - ((((x1).toUInt32 >>> (((1 : Int32)).toUInt32 &&& ((31 : Int32)).toUInt32))).toInt32 &&& (1431655765 : Int32))) &&& (858993459 : Int32)) + (((((x1 - ((((x1).toUInt32 >>> (((1 : Int32)).toUInt32 &&& ((31 : Int32)).toUInt32))).toInt32 &&& (1431655765 : Int32)))).toUInt32 >>> (((2 : Int32)).toUInt32 &&& ((31 : Int32)).toUInt32))).toInt32 &&& (858993459 : Int32))) + ((((((x1 - ((((x1).toUInt32 >>> (((1 : Int32)).toUInt32 &&& ((31 : Int32)).toUInt32))).toInt32 &&& (1431655765 : Int32))) &&& (858993459 : Int32)) + (((((x1 - ((((x1).toUInt32 >>> (((1 : Int32)).toUInt32 &&& ((31 : Int32)).toUInt32))).toInt32 &&& (1431655765 : Int32)))).toUInt32 >>> (((2 : Int32)).toUInt32 &&& ((31 : Int32)).toUInt32))).toInt32 &&& (858993459 : Int32)))).toUInt32 >>> (((4 : Int32)).toUInt32 &&& ((31 : Int32)).toUInt32))).toInt32) &&& (252645135 : Int32)).toInt ∧ (((((x1 - ((((x1).toUInt32 >>> (((1 : Int32)).toUInt32 &&& ((31 : Int32)).toUInt32))).toInt32 &&& (1431655765 : Int32))) &&& (858993459 : Int32)) + (((((x1 - ((((x1).toUInt32 >>> (((1 : Int32)).toUInt32 &&& ((31 : Int32)).toUInt32))).toInt32 &&& (1431655765 : Int32)))).toUInt32 >>> (((2 : Int32)).toUInt32 &&& ((31 : Int32)).toUInt32))).toInt32 &&& (858993459 : Int32))) + ((((((x1 - ((((x1).toUInt32 >>> (((1 : Int32)).toUInt32 &&& ((31 : Int32)).toUInt32))).toInt32 &&& (1431655765 : Int32))) &&& (858993459 : Int32)) + (((((x1 - ((((x1).toUInt32 >>> (((1 : Int32)).toUInt32 &&& ((31 : Int32)).toUInt32))).toInt32 &&& (1431655765 : Int32)))).toUInt32 >>> (((2 : Int32)).toUInt32 &&& ((31 : Int32)).toUInt32))).toInt32 &&& (858993459 : Int32)))).toUInt32 >>> (((4 : Int32)).toUInt32 &&& ((31 : Int32)).toUInt32))).toInt32) &&& (252645135 : Int32)).toInt ≤ ((252645135 : Int32)).toInt := a_andr (by omega)
  have kc10 := L63
  have kc11 : 0 ≤ ((((((((x1 - ((((x1).toUInt32 >>> (((1 : Int32)).toUInt32 &&& ((31 : Int32)).toUInt32))).toInt32 &&& (1431655765 : Int32))) &&& (858993459 : Int32)) + (((((x1 - ((((x1).toUInt32 >>> (((1 : Int32)).toUInt32 &&& ((31 : Int32)).toUInt32))).toInt32 &&& (1431655765 : Int32)))).toUInt32 >>> (((2 : Int32)).toUInt32 &&& ((31 : Int32)).toUInt32))).toInt32 &&& (858993459 : Int32))) + ((((((x1 - ((((x1).toUInt32 >>> (((1 : Int32)).toUInt32 &&& ((31 : Int32)).toUInt32))).toInt32 &&& (1431655765 : Int32))) &&& (858993459 : Int32)) + (((((x1 - ((((x1).toUInt32 >>> (((1 : Int32)).toUInt32 &&& ((31 : Int32)).toUInt32))).toInt32 &&& (1431655765 : Int32)))).toUInt32 >>> (((2 : Int32)).toUInt32 &&& ((31 : Int32)).toUInt32))).toInt32 &&& (858993459 : Int32)))).toUInt32 >>> (((4 : Int32)).toUInt32 &&& ((31 : Int32)).toUInt32))).toInt32) &&& (252645135 : Int32)) + ((((((((x1 - ((((x1).toUInt32 >>> (((1 : Int32)).toUInt32 &&& ((31 : Int32)).toUInt32))).toInt32 &&& (1431655765 : Int32))) &&& (858993459 : Int32)) + (((((x1 - ((((x1).toUInt32 >>> (((1 : Int32)).toUInt32 &&& ((31 : Int32)).toUInt32))).toInt32 &&& (1431655765 : Int32)))).toUInt32 >>> (((2 : Int32)).toUInt32 &&& ((31 : Int32)).toUInt32))).toInt32 &&& (858993459 : Int32))) + ((((((x1 - ((((x1).toUInt32 >>> (((1 : Int32)).toUInt32 &&& ((31 : Int32)).toUInt32))).toInt32 &&& (1431655765 : Int32))) &&& (858993459 : Int32)) + (((((x1 - ((((x1).toUInt32 >>> (((1 : Int32)).toUInt32 &&& ((31 : Int32)).toUInt32))).toInt32 &&& (1431655765 : Int32)))).toUInt32 >>> (((2 : Int32)).toUInt32 &&& ((31 : Int32)).toUInt32))).toInt32 &&& (858993459 : Int32)))).toUInt32 >>> (((4 : Int32)).toUInt32 &&& ((31 : Int32)).toUInt32))).toInt32) &&& (252645135 : Int32))).toUInt32 >>> (((8 : Int32)).toUInt32 &&& ((31 : Int32)).toUInt32))).toInt32) + (((((((((x1 - ((((x1).toUInt32 >>> (((1 : Int32)).toUInt32 &&& ((31 : Int32)).toUInt32))).toInt32 &&& (1431655765 : Int32))) &&& (858993459 : Int32)) + (((((x1 - ((((x1).toUInt32 >>> (((1 : Int32)).toUInt32 &&& ((31 : Int32)).toUInt32))).toInt32 &&& (1431655765 : Int32)))).toUInt32 >>> (((2 : Int32)).toUInt32 &&& ((31 : Int32)).toUInt32))).toInt32 &&& (858993459 : Int32))) + ((((((x1 - ((((x1).toUInt32 >>> (((1 : Int32)).toUInt32 &&& ((31 : Int32)).toUInt32))).toInt32 &&& (1431655765 : Int32))) &&& (858993459 : Int32)) + (((((x1 - ((((x1).toUInt32 >>> (((1 : Int32)).toUInt32 &&& ((31 : Int32)).toUInt32))).toInt32 &&& (1431655765 : Int32)))).toUInt32 >>> (((2 : Int32)).toUInt32 &&& ((31 : Int32)).toUInt32))).toInt32 &&& (858993459 : Int32)))).toUInt32 >>> (((4 : Int32)).toUInt32 &&& ((31 : Int32)).toUInt32))).toInt32) &&& (252645135 : Int32)) + ((((((((x1 - ((((x1).toUInt32 >>> (((1 : Int32)).toUInt32 &&& ((31 : Int32)).toUInt32))).toInt32 &&& (1431655765 : Int32))) &&& (858993459 : Int32)) + (((((x1 - ((((x1).toUInt32 >>> (((1 : Int32)).toUInt32 &&& ((31 : Int32)).toUInt32))).toInt32 &&& (1431655765 : Int32)))).toUInt32 >>> (((2 : Int32)).toUInt32 &&& ((31 : Int32)).toUInt32))).toInt32 &&& (858993459 : Int32))) + ((((((x1 - ((((x1).toUInt32 >>> (((1 : Int32)).toUInt32 &&& ((31 : Int32)).toUInt32))).toInt32 &&& (1431655765 : Int32))) &&& (858993459 : Int32)) + (((((x1 - ((((x1).toUInt32 >>> (((1 : Int32)).toUInt32 &&& ((31 : Int32)).toUInt32))).toInt32 &&& (1431655765 : Int32)))).toUInt32 >>> (((2 : Int32)).toUInt32 &&& ((31 : Int32)).toUInt32))).toInt32 &&& (858993459 : Int32)))).toUInt32 >>> (((4 : Int32)).toUInt32 &&& ((31 : Int32)).toUInt32))).toInt32) &&& (252645135 : Int32))).toUInt32 >>> (((8 : Int32)).toUInt32 &&& ((31 : Int32)).toUInt32))).toInt32)).toUInt32 >>> (((16 : Int32)).toUInt32 &&& ((31 : Int32)).toUInt32))).toInt32) &&& (63 : Int32)).toInt ∧ ((((((((x1 - ((((x1).toUInt32 >>> (((1 : Int32)).toUInt32 &&& ((31 : Int32)).toUInt32))).toInt32 &&& (1431655765 : Int32))) &&& (858993459 : Int32)) + (((((x1 - ((((x1).toUInt32 >>> (((1 : Int32)).toUInt32 &&& ((31 : Int32)).toUInt32))).toInt32 &&& (1431655765 : Int32)))).toUInt32 >>> (((2 : Int32)).toUInt32 &&& ((31 : Int32)).toUInt32))).toInt32 &&& (858993459 : Int32))) + ((((((x1 - ((((x1).toUInt32 >>> (((1 : Int32)).toUInt32 &&& ((31 : Int32)).toUInt32))).toInt32 &&& (1431655765 : Int32))) &&& (858993459 : Int32)) + (((((x1 - ((((x1).toUInt32 >>> (((1 : Int32)).toUInt32 &&& ((31 : Int32)).toUInt32))).toInt32 &&& (1431655765 : Int32)))).toUInt32 >>> (((2 : Int32)).toUInt32 &&& ((31 : Int32)).toUInt32))).toInt32 &&& (858993459 : Int32)))).toUInt32 >>> (((4 : Int32)).toUInt32 &&& ((31 : Int32)).toUInt32))).toInt32) &&& (252645135 : Int32)) + ((((((((x1 - ((((x1).toUInt32 >>> (((1 : Int32)).toUInt32 &&& ((31 : Int32)).toUInt32))).toInt32 &&& (1431655765 : Int32))) &&& (858993459 : Int32)) + (((((x1 - ((((x1).toUInt32 >>> (((1 : Int32)).toUInt32 &&& ((31 : Int32)).toUInt32))).toInt32 &&& (1431655765 : Int32)))).toUInt32 >>> (((2 : Int32)).toUInt32 &&& ((31 : Int32)).toUInt32))).toInt32 &&& (858993459 : Int32))) + ((((((x1 - ((((x1).toUInt32 >>> (((1 : Int32)).toUInt32 &&& ((31 : Int32)).toUInt32))).toInt32 &&& (1431655765 : Int32))) &&& (858993459 : Int32)) + (((((x1 - ((((x1).toUInt32 >>> (((1 : Int32)).toUInt32 &&& ((31 : Int32)).toUInt32))).toInt32 &&& (1431655765 : Int32)))).toUInt32 >>> (((2 : Int32)).toUInt32 &&& ((31 : Int32)).toUInt32))).toInt32 &&& (858993459 : Int32)))).toUInt32 >>> (((4 : Int32)).toUInt32 &&& ((31 : Int32)).toUInt32))).toInt32) &&& (252645135 : Int32))).toUInt32 >>> (((8 : Int32)).toUInt32 &&& ((31 : Int32)).toUInt32))).toInt32) + (((((((((x1 - ((((x1).toUInt32 >>> (((1 : Int32)).toUInt32 &&& ((31 : Int32)).toUInt32))).toInt32 &&& (1431655765 : Int32))) &&& (858993459 : Int32)) + (((((x1 - ((((x1).toUInt32 >>> (((1 : Int32)).toUInt32 &&& ((31 : Int32)).toUInt32))).toInt32 &&& (1431655765 : Int32)))).toUInt32 >>> (((2 : Int32)).toUInt32 &&& ((31 : Int32)).toUInt32))).toInt32 &&& (858993459 : Int32))) + ((((((x1 - ((((x1).toUInt32 >>> (((1 : Int32)).toUInt32 &&& ((31 : Int32)).toUInt32))).toInt32 &&& (1431655765 : Int32))) &&& (858993459 : Int32)) + (((((x1 - ((((x1).toUInt32 >>> (((1 : Int32)).toUInt32 &&& ((31 : Int32)).toUInt32))).toInt32 &&& (1431655765 : Int32)))).toUInt32 >>> (((2 : Int32)).toUInt32 &&& ((31 : Int32)).toUInt32))).toInt32 &&& (858993459 : Int32)))).toUInt32 >>> (((4 : Int32)).toUInt32 &&& ((31 : Int32)).toUInt32))).toInt32) &&& (252645135 : Int32)) + ((((((((x1 - ((((x1).toUInt32 >>> (((1 : Int32)).toUInt32 &&& ((31 : Int32)).toUInt32))).toInt32 &&& (1431655765 : Int32))) &&& (858993459 : Int32)) + (((((x1 - ((((x1).toUInt32 >>> (((1 : Int32)).toUInt32 &&& ((31 : Int32)).toUInt32))).toInt32 &&& (1431655765 : Int32)))).toUInt32 >>> (((2 : Int32)).toUInt32 &&& ((31 : Int32)).toUInt32))).toInt32 &&& (858993459 : Int32))) + ((((((x1 - ((((x1).toUInt32 >>> (((1 : Int32)).toUInt32 &&& ((31 : Int32)).toUInt32))).toInt32 &&& (1431655765 : Int32))) &&& (858993459 : Int32)) + (((((x1 - ((((x1).toUInt32 >>> (((1 : Int32)).toUInt32 &&& ((31 : Int32)).toUInt32))).toInt32 &&& (1431655765 : Int32)))).toUInt32 >>> (((2 : Int32)).toUInt32 &&& ((31 : Int32)).toUInt32))).toInt32 &&& (858993459 : Int32)))).toUInt32 >>> (((4 : Int32)).toUInt32 &&& ((31 : Int32)).toUInt32))).toInt32) &&& (252645135 : Int32))).toUInt32 >>> (((8 : Int32)).toUInt32 &&& ((31 : Int32)).toUInt32))).toInt32)).toUInt32 >>> (((16 : Int32)).toUInt32 &&& ((31 : Int32)).toUInt32))).toInt32) &&& (63 : Int32)).toInt ≤ ((63 : Int32)).toInt := a_andr (by omega)
  exact s_ret (show (0 ≤ ((((((((x1 - ((((x1).toUInt32 >>> (((1 : Int32)).toUInt32 &&& ((31 : Int32)).toUInt32))).toInt32 &&& (1431655765 : Int32))) &&& (858993459 : Int32)) + (((((x1 - ((((x1).toUInt32 >>> (((1 : Int32)).toUInt32 &&& ((31 : Int32)).toUInt32))).toInt32 &&& (1431655765 : Int32)))).toUInt32 >>> (((2 : Int32)).toUInt32 &&& ((31 : Int32)).toUInt32))).toInt32 &&& (858993459 : Int32))) + ((((((x1 - ((((x1).toUInt32 >>> (((1 : Int32)).toUInt32 &&& ((31 : Int32)).toUInt32))).toInt32 &&& (1431655765 : Int32))) &&& (858993459 : Int32)) + (((((x1 - ((((x1).toUInt32 >>> (((1 : Int32)).toUInt32 &&& ((31 : Int32)).toUInt32))).toInt32 &&& (1431655765 : Int32)))).toUInt32 >>> (((2 : Int32)).toUInt32 &&& ((31 : Int32)).toUInt32))).toInt32 &&& (858993459 : Int32)))).toUInt32 >>> (((4 : Int32)).toUInt32 &&& ((31 : Int32)).toUInt32))).toInt32) &&& (252645135 : Int32)) + ((((((((x1 - ((((x1).toUInt32 >>> (((1 : Int32)).toUInt32 &&& ((31 : Int32)).toUInt32))).toInt32 &&& (1431655765 : Int32))) &&& (858993459 : Int32)) + (((((x1 - ((((x1).toUInt32 >>> (((1 : Int32)).toUInt32 &&& ((31 : Int32)).toUInt32))).toInt32 &&& (1431655765 : Int32)))).toUInt32 >>> (((2 : Int32)).toUInt32 &&& ((31 : Int32)).toUInt32))).toInt32 &&& (858993459 : Int32))) + ((((((x1 - ((((x1).toUInt32 >>> (((1 : Int32)).toUInt32 &&& ((31 : Int32)).toUInt32))).toInt32 &&& (1431655765 : Int32))) &&& (858993459 : Int32)) + (((((x1 - ((((x1).toUInt32 >>> (((1 : Int32)).toUInt32 &&& ((31 : Int32)).toUInt32))).toInt32 &&& (1431655765 : Int32)))).toUInt32 >>> (((2 : Int32)).toUInt32 &&& ((31 : Int32)).toUInt32))).toInt32 &&& (858993459 : Int32)))).toUInt32 >>> (((4 : Int32)).toUInt32 &&& ((31 : Int32)).toUInt32))).toInt32) &&& (252645135 : Int32))).toUInt32 >>> (((8 : Int32)).toUInt32 &&& ((31 : Int32)).toUInt32))).toInt32) + (((((((((x1 - ((((x1).toUInt32 >>> (((1 : Int32)).toUInt32 &&& ((31 : Int32)).toUInt32))).toInt32 &&& (1431655765 : Int32))) &&& (858993459 : Int32)) + (((((x1 - ((((x1).toUInt32 >>> (((1 : Int32)).toUInt32 &&& ((31 : Int32)).toUInt32))).toInt32 &&& (1431655765 : Int32)))).toUInt32 >>> (((2 : Int32)).toUInt32 &&& ((31 : Int32)).toUInt32))).toInt32 &&& (858993459 : Int32))) + ((((((x1 - ((((x1).toUInt32 >>> (((1 : Int32)).toUInt32 &&& ((31 : Int32)).toUInt32))).toInt32 &&& (1431655765 : Int32))) &&& (858993459 : Int32)) + (((((x1 - ((((x1).toUInt32 >>> (((1 : Int32)).toUInt32 &&& ((31 : Int32)).toUInt32))).toInt32 &&& (1431655765 : Int32)))).toUInt32 >>> (((2 : Int32)).toUInt32 &&& ((31 : Int32)).toUInt32))).toInt32 &&& (858993459 : Int32)))).toUInt32 >>> (((4 : Int32)).toUInt32 &&& ((31 : Int32)).toUInt32))).toInt32) &&& (252645135 : Int32)) + ((((((((x1 - ((((x1).toUInt32 >>> (((1 : Int32)).toUInt32 &&& ((31 : Int32)).toUInt32))).toInt32 &&& (1431655765 : Int32))) &&& (858993459 : Int32)) + (((((x1 - ((((x1).toUInt32 >>> (((1 : Int32)).toUInt32 &&& ((31 : Int32)).toUInt32))).toInt32 &&& (1431655765 : Int32)))).toUInt32 >>> (((2 : Int32)).toUInt32 &&& ((31 : Int32)).toUInt32))).toInt32 &&& (858993459 : Int32))) + ((((((x1 - ((((x1).toUInt32 >>> (((1 : Int32)).toUInt32 &&& ((31 : Int32)).toUInt32))).toInt32 &&& (1431655765 : Int32))) &&& (858993459 : Int32)) + (((((x1 - ((((x1).toUInt32 >>> (((1 : Int32)).toUInt32 &&& ((31 : Int32)).toUInt32))).toInt32 &&& (1431655765 : Int32)))).toUInt32 >>> (((2 : Int32)).toUInt32 &&& ((31 : Int32)).toUInt32))).toInt32 &&& (858993459 : Int32)))).toUInt32 >>> (((4 : Int32)).toUInt32 &&& ((31 : Int32)).toUInt32))).toInt32) &&& (252645135 : Int32))).toUInt32 >>> (((8 : Int32)).toUInt32 &&& ((31 : Int32)).toUInt32))).toInt32)).toUInt32 >>> (((16 : Int32)).toUInt32 &&& ((31 : Int32)).toUInt32))).toInt32) &&& (63 : Int32)).toInt) ∧ (((((((((x1 - ((((x1).toUInt32 >>> (((1 : Int32)).toUInt32 &&& ((31 : Int32)).toUInt32))).toInt32 &&& (1431655765 : Int32))) &&& (858993459 : Int32)) + (((((x1 - ((((x1).toUInt32 >>> (((1 : Int32)).toUInt32 &&& ((31 : Int32)).toUInt32))).toInt32 &&& (1431655765 : Int32)))).toUInt32 >>> (((2 : Int32)).toUInt32 &&& ((31 : Int32)).toUInt32))).toInt32 &&& (858993459 : Int32))) + ((((((x1 - ((((x1).toUInt32 >>> (((1 : Int32)).toUInt32 &&& ((31 : Int32)).toUInt32))).toInt32 &&& (1431655765 : Int32))) &&& (858993459 : Int32)) + (((((x1 - ((((x1).toUInt32 >>> (((1 : Int32)).toUInt32 &&& ((31 : Int32)).toUInt32))).toInt32 &&& (1431655765 : Int32)))).toUInt32 >>> (((2 : Int32)).toUInt32 &&& ((31 : Int32)).toUInt32))).toInt32 &&& (858993459 : Int32)))).toUInt32 >>> (((4 : Int32)).toUInt32 &&& ((31 : Int32)).toUInt32))).toInt32) &&& (252645135 : Int32)) + ((((((((x1 - ((((x1).toUInt32 >>> (((1 : Int32)).toUInt32 &&& ((31 : Int32)).toUInt32))).toInt32 &&& (1431655765 : Int32))) &&& (858993459 : Int32)) + (((((x1 - ((((x1).toUInt32 >>> (((1 : Int32)).toUInt32 &&& ((31 : Int32)).toUInt32))).toInt32 &&& (1431655765 : Int32)))).toUInt32 >>> (((2 : Int32)).toUInt32 &&& ((31 : Int32)).toUInt32))).toInt32 &&& (858993459 : Int32))) + ((((((x1 - ((((x1).toUInt32 >>> (((1 : Int32)).toUInt32 &&& ((31 : Int32)).toUInt32))).toInt32 &&& (1431655765 : Int32))) &&& (858993459 : Int32)) + (((((x1 - ((((x1).toUInt32 >>> (((1 : Int32)).toUInt32 &&& ((31 : Int32)).toUInt32))).toInt32 &&& (1431655765 : Int32)))).toUInt32 >>> (((2 : Int32)).toUInt32 &&& ((31 : Int32)).toUInt32))).toInt32 &&& (858993459 : Int32)))).toUInt32 >>> (((4 : Int32)).toUInt32 &&& ((31 : Int32)).toUInt32))).toInt32) &&& (252645135 : Int32))).toUInt32 >>> (((8 : Int32)).toUInt32 &&& ((31 : Int32)).toUInt32))).toInt32) + (((((((((x1 - ((((x1).toUInt32 >>> (((1 : Int32)).toUInt32 &&& ((31 : Int32)).toUInt32))).toInt32 &&& (1431655765 : Int32))) &&& (858993459 : Int32)) + (((((x1 - ((((x1).toUInt32 >>> (((1 : Int32)).toUInt32 &&& ((31 : Int32)).toUInt32))).toInt32 &&& (1431655765 : Int32)))).toUInt32 >>> (((2 : Int32)).toUInt32 &&& ((31 : Int32)).toUInt32))).toInt32 &&& (858993459 : Int32))) + ((((((x1 - ((((x1).toUInt32 >>> (((1 : Int32)).toUInt32 &&& ((31 : Int32)).toUInt32))).toInt32 &&& (1431655765 : Int32))) &&& (858993459 : Int32)) + (((((x1 - ((((x1).toUInt32 >>> (((1 : Int32)).toUInt32 &&& ((31 : Int32)).toUInt32))).toInt32 &&& (1431655765 : Int32)))).toUInt32 >>> (((2 : Int32)).toUInt32 &&& ((31 : Int32)).toUInt32))).toInt32 &&& (858993459 : Int32)))).toUInt32 >>> (((4 : Int32)).toUInt32 &&& ((31 : Int32)).toUInt32))).toInt32) &&& (252645135 : Int32)) + ((((((((x1 - ((((x1).toUInt32 >>> (((1 : Int32)).toUInt32 &&& ((31 : Int32)).toUInt32))).toInt32 &&& (1431655765 : Int32))) &&& (858993459 : Int32)) + (((((x1 - ((((x1).toUInt32 >>> (((1 : Int32)).toUInt32 &&& ((31 : Int32)).toUInt32))).toInt32 &&& (1431655765 : Int32)))).toUInt32 >>> (((2 : Int32)).toUInt32 &&& ((31 : Int32)).toUInt32))).toInt32 &&& (858993459 : Int32))) + ((((((x1 - ((((x1).toUInt32 >>> (((1 : Int32)).toUInt32 &&& ((31 : Int32)).toUInt32))).toInt32 &&& (1431655765 : Int32))) &&& (858993459 : Int32)) + (((((x1 - ((((x1).toUInt32 >>> (((1 : Int32)).toUInt32 &&& ((31 : Int32)).toUInt32))).toInt32 &&& (1431655765 : Int32)))).toUInt32 >>> (((2 : Int32)).toUInt32 &&& ((31 : Int32)).toUInt32))).toInt32 &&& (858993459 : Int32)))).toUInt32 >>> (((4 : Int32)).toUInt32 &&& ((31 : Int32)).toUInt32))).toInt32) &&& (252645135 : Int32))).toUInt32 >>> (((8 : Int32)).toUInt32 &&& ((31 : Int32)).toUInt32))).toInt32)).toUInt32 >>> (((16 : Int32)).toUInt32 &&& ((31 : Int32)).toUInt32))).toInt32) &&& (63 : Int32)).toInt ≤ 63) by omega)
theorem zX11_odd (m : sm_S) (hI : zI m) : Sf (fun r => ((0 ≤ r.1.toInt) ∧ (r.1.toInt ≤ 63)) ∧ zI r.2 ∧ Fr wX11_odd m r.2) (fX11_odd m) := by
  have hfu := fuE
  unfold fX11_odd
  refine s_bd (zX2_everyHedge m hI) (fun r2 kr1 => ?_)
  replace kr1 : (0 ≤ r2.toInt) ∧ (r2.toInt ≤ 16383) := kr1
  refine s_bd (zX2_oddCorners r2 m (show 0 ≤ r2.toInt ∧ r2.toInt ≤ 16383 by omega) hI) (fun r4 kr2 => ?_)
  replace kr2 : (0 ≤ r4.toInt) ∧ (r4.toInt ≤ 1023) := kr2
  refine s_bd (zX5_tell r4 m hI) (fun m6 kr3 => ?_)
  obtain ⟨kp4, ki5, kf6⟩ := kr3
  refine s_bd (zJ6_bitCount_0f7a4 r4 m6 (show 0 ≤ r4.toInt ∧ r4.toInt ≤ 16383 by omega) ki5) (fun r8 kr7 => ?_)
  replace kr7 : (0 ≤ r8.toInt) ∧ (r8.toInt ≤ 63) := kr7
  have kf8 : Fr wX11_odd m m6 := Fr.trans Fr.refl kf6 rfl
  exact s_ret ⟨(show (0 ≤ r8.toInt) ∧ (r8.toInt ≤ 63) by omega), ki5, kf8⟩
theorem zX2_hanging_29 (k10 : Int32 → Int32 → Int32 → Int32 → sm_S → Option (Int32)) (Nk10 : Nat) (hk10 : ∀ (v2 : Int32) (v3 : Int32) (v4 : Int32) (v5 : Int32) (m : sm_S), (0 ≤ v2.toInt ∧ v2.toInt ≤ 16383 ∧ 0 ≤ v3.toInt ∧ v3.toInt ≤ 1023 ∧ 0 ≤ v4.toInt ∧ v4.toInt ≤ 1023 ∧ 0 ≤ v5.toInt ∧ v5.toInt ≤ 10 ∧ 10 - v5.toInt < (Nk10 : Int)) → zI m → Sf (fun r => (0 ≤ r.toInt) ∧ (r.toInt ≤ 1023)) (k10 v2 v3 v4 v5 m)) : ∀ (n : Nat) (v2 : Int32) (v3 : Int32) (v4 : Int32) (v5 : Int32) (v6 : Int32) (m : sm_S), (0 ≤ v2.toInt ∧ v2.toInt ≤ 16383 ∧ 0 ≤ v3.toInt ∧ v3.toInt ≤ 1023 ∧ 0 ≤ v4.toInt ∧ v4.toInt ≤ 1023 ∧ 0 ≤ v5.toInt ∧ v5.toInt ≤ 9 ∧ 0 ≤ v6.toInt ∧ v6.toInt ≤ 14 ∧ 14 - v6.toInt < (n : Int) ∧ 10 - v5.toInt ≤ (Nk10 : Int)) → zI m → Sf (fun r => (0 ≤ r.toInt) ∧ (r.toInt ≤ 1023)) (fX2_hanging_29 k10 n v2 v3 v4 v5 v6 m) := by
  intro n
  induction n with
  | zero =>
    intro v2 v3 v4 v5 v6 m hp hI
    exfalso
    omega
  | succ n ih =>
    intro v2 v3 v4 v5 v6 m hp hI
    have hnn : ((n + 1 : Nat) : Int) = (n : Int) + 1 := by omega
    have hfu := fuE
    unfold fX2_hanging_29
    have kc1 : 0 ≤ (m.1 3 1).toInt ∧ (m.1 3 1).toInt ≤ 14 := hI.1 3 1
    refine s_le (fun kh2 => ?_) (fun kh2 => ?_)
    · have kc3 : (v5 + (1 : Int32)).toInt = (v5).toInt + 1 := a_addl L1 (by omega) (by omega)
      exact hk10 v2 v3 v4 (v5 + (1 : Int32)) m (show 0 ≤ v2.toInt ∧ v2.toInt ≤ 16383 ∧ 0 ≤ v3.toInt ∧ v3.toInt ≤ 1023 ∧ 0 ≤ v4.toInt ∧ v4.toInt ≤ 1023 ∧ 0 ≤ (v5 + (1 : Int32)).toInt ∧ (v5 + (1 : Int32)).toInt ≤ 10 ∧ 10 - (v5 + (1 : Int32)).toInt < (Nk10 : Int) by omega) hI
    · have kc4 := L31
      have kc5 : 0 ≤ (v6 &&& (31 : Int32)).toInt ∧ (v6 &&& (31 : Int32)).toInt ≤ ((31 : Int32)).toInt := a_andr (by omega)
      have kc6 : 0 ≤ (v6 &&& (31 : Int32)).toInt ∧ (v6 &&& (31 : Int32)).toInt ≤ (v6).toInt := a_andl (by omega)
      have kc7 : 0 ≤ (v2 >>> (v6 &&& (31 : Int32))).toInt ∧ (v2 >>> (v6 &&& (31 : Int32))).toInt ≤ (v2).toInt := a_shr (by omega)
      have kc8 := L1
      have kc9 : 0 ≤ ((v2 >>> (v6 &&& (31 : Int32))) &&& (1 : Int32)).toInt ∧ ((v2 >>> (v6 &&& (31 : Int32))) &&& (1 : Int32)).toInt ≤ ((1 : Int32)).toInt := a_andr (by omega)
      have kc10 : 0 ≤ ((v2 >>> (v6 &&& (31 : Int32))) &&& (1 : Int32)).toInt ∧ ((v2 >>> (v6 &&& (31 : Int32))) &&& (1 : Int32)).toInt ≤ ((v2 >>> (v6 &&& (31 : Int32)))).toInt := a_andl (by omega)
      have kc11 := L0
      refine s_eq (fun kh12 => ?_) (fun kh12 => ?_)
      · have kc13 : (v6 + (1 : Int32)).toInt = (v6).toInt + 1 := a_addl L1 (by omega) (by omega)
        exact ih v2 v3 v4 v5 (v6 + (1 : Int32)) m (show 0 ≤ v2.toInt ∧ v2.toInt ≤ 16383 ∧ 0 ≤ v3.toInt ∧ v3.toInt ≤ 1023 ∧ 0 ≤ v4.toInt ∧ v4.toInt ≤ 1023 ∧ 0 ≤ v5.toInt ∧ v5.toInt ≤ 9 ∧ 0 ≤ (v6 + (1 : Int32)).toInt ∧ (v6 + (1 : Int32)).toInt ≤ 14 ∧ 14 - (v6 + (1 : Int32)).toInt < (n : Int) ∧ 10 - v5.toInt ≤ (Nk10 : Int) by omega) hI
      · refine s_bd (zX2_endsOf v6 m (show 0 ≤ v6.toInt ∧ v6.toInt ≤ 13 by omega) hI) (fun r2 kr14 => ?_)
        replace kr14 : (0 ≤ r2.toInt) ∧ (r2.toInt ≤ 1023) := kr14
        have kc15 : 0 ≤ (v3 &&& r2).toInt ∧ (v3 &&& r2).toInt ≤ (r2).toInt := a_andr (by omega)
        have kc16 : 0 ≤ (v3 &&& r2).toInt ∧ (v3 &&& r2).toInt ≤ (v3).toInt := a_andl (by omega)
        refine s_eq (fun kh17 => ?_) (fun kh17 => ?_)
        · have kc18 : (v6 + (1 : Int32)).toInt = (v6).toInt + 1 := a_addl L1 (by omega) (by omega)
          exact ih v2 v3 v4 v5 (v6 + (1 : Int32)) m (show 0 ≤ v2.toInt ∧ v2.toInt ≤ 16383 ∧ 0 ≤ v3.toInt ∧ v3.toInt ≤ 1023 ∧ 0 ≤ v4.toInt ∧ v4.toInt ≤ 1023 ∧ 0 ≤ v5.toInt ∧ v5.toInt ≤ 9 ∧ 0 ≤ (v6 + (1 : Int32)).toInt ∧ (v6 + (1 : Int32)).toInt ≤ 14 ∧ 14 - (v6 + (1 : Int32)).toInt < (n : Int) ∧ 10 - v5.toInt ≤ (Nk10 : Int) by omega) hI
        · refine s_bd (zX2_endsOf v6 m (show 0 ≤ v6.toInt ∧ v6.toInt ≤ 13 by omega) hI) (fun r4 kr19 => ?_)
          replace kr19 : (0 ≤ r4.toInt) ∧ (r4.toInt ≤ 1023) := kr19
          have kc20 : 0 ≤ (v3 ||| r4).toInt ∧ (v3 ||| r4).toInt < 1024 := a_or 10 (by decide) (by decide) (by omega) (by omega) (by omega) (by omega)
          have kc21 : (v6 + (1 : Int32)).toInt = (v6).toInt + 1 := a_addl L1 (by omega) (by omega)
          exact ih v2 (v3 ||| r4) v4 v5 (v6 + (1 : Int32)) m (show 0 ≤ v2.toInt ∧ v2.toInt ≤ 16383 ∧ 0 ≤ (v3 ||| r4).toInt ∧ (v3 ||| r4).toInt ≤ 1023 ∧ 0 ≤ v4.toInt ∧ v4.toInt ≤ 1023 ∧ 0 ≤ v5.toInt ∧ v5.toInt ≤ 9 ∧ 0 ≤ (v6 + (1 : Int32)).toInt ∧ (v6 + (1 : Int32)).toInt ≤ 14 ∧ 14 - (v6 + (1 : Int32)).toInt < (n : Int) ∧ 10 - v5.toInt ≤ (Nk10 : Int) by omega) hI
theorem zX2_hanging_10 : ∀ (n : Nat) (v2 : Int32) (v3 : Int32) (v4 : Int32) (v5 : Int32) (m : sm_S), (0 ≤ v2.toInt ∧ v2.toInt ≤ 16383 ∧ 0 ≤ v3.toInt ∧ v3.toInt ≤ 1023 ∧ 0 ≤ v4.toInt ∧ v4.toInt ≤ 1023 ∧ 0 ≤ v5.toInt ∧ v5.toInt ≤ 10 ∧ 10 - v5.toInt < (n : Int)) → zI m → Sf (fun r => (0 ≤ r.toInt) ∧ (r.toInt ≤ 1023)) (fX2_hanging_10 n v2 v3 v4 v5 m) := by
  intro n
  induction n with
  | zero =>
    intro v2 v3 v4 v5 m hp hI
    exfalso
    omega
  | succ n ih =>
    intro v2 v3 v4 v5 m hp hI
    have hnn : ((n + 1 : Nat) : Int) = (n : Int) + 1 := by omega
    have hfu := fuE
    unfold fX2_hanging_10
    have kc1 := L10
    refine s_le (fun kh2 => ?_) (fun kh2 => ?_)
    · exact s_ret (show (0 ≤ v3.toInt) ∧ (v3.toInt ≤ 1023) by omega)
    · refine s_eq (fun kh3 => ?_) (fun kh3 => ?_)
      · exact s_ret (show (0 ≤ v3.toInt) ∧ (v3.toInt ≤ 1023) by omega)
      · have kc4 := L0
        exact zX2_hanging_29 (fX2_hanging_10 n) n ih sm_fu v2 v3 v3 v5 (0 : Int32) m (show 0 ≤ v2.toInt ∧ v2.toInt ≤ 16383 ∧ 0 ≤ v3.toInt ∧ v3.toInt ≤ 1023 ∧ 0 ≤ v3.toInt ∧ v3.toInt ≤ 1023 ∧ 0 ≤ v5.toInt ∧ v5.toInt ≤ 9 ∧ 0 ≤ (0 : Int32).toInt ∧ (0 : Int32).toInt ≤ 14 ∧ 14 - (0 : Int32).toInt < (sm_fu : Int) ∧ 10 - v5.toInt ≤ (n : Int) by omega) hI
theorem zX2_hanging (x1 : Int32) (x2 : Int32) (m : sm_S) (hp : 0 ≤ x1.toInt ∧ x1.toInt ≤ 9 ∧ 0 ≤ x2.toInt ∧ x2.toInt ≤ 16383) (hI : zI m) : Sf (fun r => (0 ≤ r.toInt) ∧ (r.toInt ≤ 1023)) (fX2_hanging x1 x2 m) := by
  have hfu := fuE
  unfold fX2_hanging
  have kc1 := L1
  have kc2 := L31
  have kc3 : 0 ≤ (x1 &&& (31 : Int32)).toInt ∧ (x1 &&& (31 : Int32)).toInt ≤ ((31 : Int32)).toInt := a_andr (by omega)
  have kc4 : 0 ≤ (x1 &&& (31 : Int32)).toInt ∧ (x1 &&& (31 : Int32)).toInt ≤ (x1).toInt := a_andl (by omega)
  have kc5 : 1 ≤ ((1 : Int32) <<< (x1 &&& (31 : Int32))).toInt ∧ ((1 : Int32) <<< (x1 &&& (31 : Int32))).toInt ≤ 512 := a_shl 9 (by decide) (by decide) (by omega) (by omega)
  have kc6 := L0
  exact zX2_hanging_10 sm_fu x2 ((1 : Int32) <<< (x1 &&& (31 : Int32))) (0 : Int32) (0 : Int32) m (show 0 ≤ x2.toInt ∧ x2.toInt ≤ 16383 ∧ 0 ≤ ((1 : Int32) <<< (x1 &&& (31 : Int32))).toInt ∧ ((1 : Int32) <<< (x1 &&& (31 : Int32))).toInt ≤ 1023 ∧ 0 ≤ (0 : Int32).toInt ∧ (0 : Int32).toInt ≤ 1023 ∧ 0 ≤ (0 : Int32).toInt ∧ (0 : Int32).toInt ≤ 10 ∧ 10 - (0 : Int32).toInt < (sm_fu : Int) by omega) hI
theorem zX11_men_25 (m0 : sm_S) : ∀ (n : Nat) (v1 : Int32) (v2 : Int32) (v3 : Int32) (v4 : Int32) (v5 : Int32) (m : sm_S), (0 ≤ v1.toInt ∧ v1.toInt ≤ 1023 ∧ 0 ≤ v2.toInt ∧ v2.toInt ≤ 1023 ∧ 0 ≤ v5.toInt ∧ v5.toInt ≤ 14 ∧ 14 - v5.toInt < (n : Int)) → zI m → Fr wX11_men m0 m → Sf (fun r => (True) ∧ zI r.2 ∧ Fr wX11_men m0 r.2) (fX11_men_25 n v1 v2 v3 v4 v5 m) := by
  intro n
  induction n with
  | zero =>
    intro v1 v2 v3 v4 v5 m hp hI hF
    exfalso
    omega
  | succ n ih =>
    intro v1 v2 v3 v4 v5 m hp hI hF
    have hnn : ((n + 1 : Nat) : Int) = (n : Int) + 1 := by omega
    have hfu := fuE
    unfold fX11_men_25
    have kc1 : 0 ≤ (m.1 3 1).toInt ∧ (m.1 3 1).toInt ≤ 14 := hI.1 3 1
    refine s_le (fun kh2 => ?_) (fun kh2 => ?_)
    · refine s_bd (zX5_tell v3 m hI) (fun m6 kr3 => ?_)
      obtain ⟨kp4, ki5, kf6⟩ := kr3
      have kf7 : Fr wX11_men m0 m6 := Fr.trans hF kf6 rfl
      exact s_ret ⟨trivial, ki5, kf7⟩
    · have kx8 : 0 ≤ (v5).toInt ∧ (v5).toInt < (14 : Int) := by omega
      refine s_ix kx8 ?_
      have kc9 : 0 ≤ (m.1 6 (v5).toNatClampNeg).toInt ∧ (m.1 6 (v5).toNatClampNeg).toInt ≤ 9 := hI.1 6 (v5).toNatClampNeg
      have kc10 := L31
      have kc11 : 0 ≤ ((m.1 6 (v5).toNatClampNeg) &&& (31 : Int32)).toInt ∧ ((m.1 6 (v5).toNatClampNeg) &&& (31 : Int32)).toInt ≤ ((31 : Int32)).toInt := a_andr (by omega)
      have kc12 : 0 ≤ ((m.1 6 (v5).toNatClampNeg) &&& (31 : Int32)).toInt ∧ ((m.1 6 (v5).toNatClampNeg) &&& (31 : Int32)).toInt ≤ ((m.1 6 (v5).toNatClampNeg)).toInt := a_andl (by omega)
      have kc13 : 0 ≤ (v2 >>> ((m.1 6 (v5).toNatClampNeg) &&& (31 : Int32))).toInt ∧ (v2 >>> ((m.1 6 (v5).toNatClampNeg) &&& (31 : Int32))).toInt ≤ (v2).toInt := a_shr (by omega)
      have kc14 := L1
      have kc15 : 0 ≤ ((v2 >>> ((m.1 6 (v5).toNatClampNeg) &&& (31 : Int32))) &&& (1 : Int32)).toInt ∧ ((v2 >>> ((m.1 6 (v5).toNatClampNeg) &&& (31 : Int32))) &&& (1 : Int32)).toInt ≤ ((1 : Int32)).toInt := a_andr (by omega)
      have kc16 : 0 ≤ ((v2 >>> ((m.1 6 (v5).toNatClampNeg) &&& (31 : Int32))) &&& (1 : Int32)).toInt ∧ ((v2 >>> ((m.1 6 (v5).toNatClampNeg) &&& (31 : Int32))) &&& (1 : Int32)).toInt ≤ ((v2 >>> ((m.1 6 (v5).toNatClampNeg) &&& (31 : Int32)))).toInt := a_andl (by omega)
      have kc17 := L0
      refine s_eq (fun kh18 => ?_) (fun kh18 => ?_)
      · refine s_ix kx8 ?_
        refine s_bd (zX2_everyHedge m hI) (fun r10 kr19 => ?_)
        replace kr19 : (0 ≤ r10.toInt) ∧ (r10.toInt ≤ 16383) := kr19
        refine s_bd (zX2_hanging (m.1 6 (v5).toNatClampNeg) r10 m (show 0 ≤ (m.1 6 (v5).toNatClampNeg).toInt ∧ (m.1 6 (v5).toNatClampNeg).toInt ≤ 9 ∧ 0 ≤ r10.toInt ∧ r10.toInt ≤ 16383 by omega) hI) (fun r12 kr20 => ?_)
        replace kr20 : (0 ≤ r12.toInt) ∧ (r12.toInt ≤ 1023) := kr20
        have kc21 : 0 ≤ (r12 &&& v1).toInt ∧ (r12 &&& v1).toInt ≤ (v1).toInt := a_andr (by omega)
        have kc22 : 0 ≤ (r12 &&& v1).toInt ∧ (r12 &&& v1).toInt ≤ (r12).toInt := a_andl (by omega)
        refine s_bd (zJ6_bitCount_0f7a4 (r12 &&& v1) m (show 0 ≤ (r12 &&& v1).toInt ∧ (r12 &&& v1).toInt ≤ 16383 by omega) hI) (fun r14 kr23 => ?_)
        replace kr23 : (0 ≤ r14.toInt) ∧ (r14.toInt ≤ 63) := kr23
        have kc24 : 0 ≤ (v2 ||| r12).toInt ∧ (v2 ||| r12).toInt < 1024 := a_or 10 (by decide) (by decide) (by omega) (by omega) (by omega) (by omega)
        have kc25 := L2
        have kc26 : (r14 / (2 : Int32)).toInt = (r14).toInt / 2 := (a_div (by omega) (by omega)).trans (congrArg (fun z => (r14).toInt / z) L2)
        have kc27 : (((1 : Int32)).toInt < ((r14 / (2 : Int32))).toInt ∧ (if (1 : Int32) < (r14 / (2 : Int32)) then (r14 / (2 : Int32)) else (1 : Int32)).toInt = ((r14 / (2 : Int32))).toInt) ∨ (((r14 / (2 : Int32))).toInt ≤ ((1 : Int32)).toInt ∧ (if (1 : Int32) < (r14 / (2 : Int32)) then (r14 / (2 : Int32)) else (1 : Int32)).toInt = ((1 : Int32)).toInt) := a_ilt
        have kc28 : (v5 + (1 : Int32)).toInt = (v5).toInt + 1 := a_addl L1 (by omega) (by omega)
        exact ih v1 (v2 ||| r12) (v3 + (1 : Int32)) (v4 + (if (1 : Int32) < (r14 / (2 : Int32)) then (r14 / (2 : Int32)) else (1 : Int32))) (v5 + (1 : Int32)) m (show 0 ≤ v1.toInt ∧ v1.toInt ≤ 1023 ∧ 0 ≤ (v2 ||| r12).toInt ∧ (v2 ||| r12).toInt ≤ 1023 ∧ 0 ≤ (v5 + (1 : Int32)).toInt ∧ (v5 + (1 : Int32)).toInt ≤ 14 ∧ 14 - (v5 + (1 : Int32)).toInt < (n : Int) by omega) hI hF
      · have kc29 : (v5 + (1 : Int32)).toInt = (v5).toInt + 1 := a_addl L1 (by omega) (by omega)
        exact ih v1 v2 v3 v4 (v5 + (1 : Int32)) m (show 0 ≤ v1.toInt ∧ v1.toInt ≤ 1023 ∧ 0 ≤ v2.toInt ∧ v2.toInt ≤ 1023 ∧ 0 ≤ (v5 + (1 : Int32)).toInt ∧ (v5 + (1 : Int32)).toInt ≤ 14 ∧ 14 - (v5 + (1 : Int32)).toInt < (n : Int) by omega) hI hF
