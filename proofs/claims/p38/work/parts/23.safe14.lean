theorem zX12_tour (x1 : Int32) (m : sm_S) (hI : zI m) : Sf (fun r => (True) ∧ zI r.2 ∧ Fr wX12_tour m r.2) (fX12_tour x1 m) := by
  have hfu := fuE
  unfold fX12_tour
  have kc1 := L30
  have kc2 := L0
  have ki3 : zI (sm_w1 m 72 0 (0 : Int32)) := zI.w hI rfl (show 0 ≤ ((0 : Int32)).toInt ∧ ((0 : Int32)).toInt ≤ 1 by omega)
  refine s_bd (zX12_begins (30 : Int32) (sm_w1 m 72 0 (0 : Int32)) (show 30 ≤ (30 : Int32).toInt ∧ (30 : Int32).toInt ≤ 76 by omega) ki3) (fun r2 kr4 => ?_)
  obtain ⟨kp5, ki6, kf7⟩ := kr4
  replace kp5 : (0 ≤ r2.1.toInt) ∧ (r2.1.toInt ≤ 80) ∧ ((r2.2.1 72 23).toInt ≤ (30 : Int32).toInt) ∧ ((r2.2.1 72 22).toInt = 0) := kp5
  have kc8 : 0 ≤ (r2.2.1 72 23).toInt ∧ (r2.2.1 72 23).toInt ≤ 76 := ki6.1 72 23
  have kc9 : 0 ≤ (r2.2.1 72 22).toInt ∧ (r2.2.1 72 22).toInt ≤ 80 := ki6.1 72 22
  have kc10 : (x1).toInt64.toInt = (x1).toInt := Int32.toInt_toInt64 _
  have kc11 := LL0
  have kc12 := LL1
  refine s_bd (zX12_in (x1).toInt64 (0 : Int64) (1 : Int64) r2.2 (show (-1 : Int) ≤ (0 : Int64).toInt ∧ (0 : Int64).toInt ≤ 48 ∧ (-1 : Int) ≤ (1 : Int64).toInt ∧ (1 : Int64).toInt ≤ 9999 by omega) ki6) (fun r4 kr13 => ?_)
  replace kr13 : (0 ≤ r4.toInt) ∧ (r4.toInt ≤ 1) ∧ ((r4.toInt = 0 ∧ ((x1).toInt64.toInt < (0 : Int64).toInt ∨ (1 : Int64).toInt < (x1).toInt64.toInt)) ∨ (r4.toInt = 1 ∧ (0 : Int64).toInt ≤ (x1).toInt64.toInt ∧ (x1).toInt64.toInt ≤ (1 : Int64).toInt)) := kr13
  refine s_eq (fun kh14 => ?_) (fun kh14 => ?_)
  · have kc15 := Ln100
    have kf16 : Fr wX12_tour m (sm_w1 m 72 0 (0 : Int32)) := Fr.w Fr.refl rfl
    have kf17 : Fr wX12_tour m r2.2 := Fr.trans kf16 kf7 rfl
    exact s_ret ⟨trivial, ki6, kf17⟩
  · have kc18 := Ln1
    have kc19 : 0 ≤ (r2.2.1 72 3).toInt ∧ (r2.2.1 72 3).toInt ≤ 10 := ki6.1 72 3
    have kc20 : (r2.2.1 72 3).toInt = ((sm_w1 m 72 0 (0 : Int32)).1 72 3).toInt := congrArg Int32.toInt (kf7 72 3 rfl)
    have kc21 : 0 ≤ ((sm_w1 m 72 0 (0 : Int32)).1 72 3).toInt ∧ ((sm_w1 m 72 0 (0 : Int32)).1 72 3).toInt ≤ 10 := ki3.1 72 3
    have kc22 : ((sm_w1 m 72 0 (0 : Int32)).1 72 3).toInt = (m.1 72 3).toInt := rfl
    have kc23 : 0 ≤ (m.1 72 3).toInt ∧ (m.1 72 3).toInt ≤ 10 := hI.1 72 3
    have ki24 : zI (sm_w1 r2.2 72 24 (r2.2.1 72 3)) := zI.w ki6 rfl (show 0 ≤ ((r2.2.1 72 3)).toInt ∧ ((r2.2.1 72 3)).toInt ≤ 10 by omega)
    refine s_bd (zX12_cornerBut (-1 : Int32) (sm_w1 r2.2 72 24 (r2.2.1 72 3)) (show (-1 : Int) ≤ (-1 : Int32).toInt ∧ (-1 : Int32).toInt ≤ 9 by omega) ki24) (fun r6 kr25 => ?_)
    obtain ⟨kp26, ki27, kf28⟩ := kr25
    replace kp26 : ((-1 : Int) ≤ r6.1.toInt) ∧ (r6.1.toInt ≤ 9) ∧ ((r6.1.toInt < 0 ∧ (r6.2.1 72 22).toInt = ((sm_w1 r2.2 72 24 (r2.2.1 72 3)).1 72 22).toInt) ∨ (0 ≤ r6.1.toInt ∧ ((sm_w1 r2.2 72 24 (r2.2.1 72 3)).1 72 22).toInt < ((sm_w1 r2.2 72 24 (r2.2.1 72 3)).1 72 23).toInt ∧ (r6.2.1 72 22).toInt = ((sm_w1 r2.2 72 24 (r2.2.1 72 3)).1 72 22).toInt + 1)) := kp26
    have kc29 : 0 ≤ (r6.2.1 72 22).toInt ∧ (r6.2.1 72 22).toInt ≤ 80 := ki27.1 72 22
    have kc30 : 0 ≤ ((sm_w1 r2.2 72 24 (r2.2.1 72 3)).1 72 22).toInt ∧ ((sm_w1 r2.2 72 24 (r2.2.1 72 3)).1 72 22).toInt ≤ 80 := ki24.1 72 22
    have kc31 : ((sm_w1 r2.2 72 24 (r2.2.1 72 3)).1 72 22).toInt = (r2.2.1 72 22).toInt := rfl
    have kc32 : 0 ≤ ((sm_w1 r2.2 72 24 (r2.2.1 72 3)).1 72 23).toInt ∧ ((sm_w1 r2.2 72 24 (r2.2.1 72 3)).1 72 23).toInt ≤ 76 := ki24.1 72 23
    have kc33 : ((sm_w1 r2.2 72 24 (r2.2.1 72 3)).1 72 23).toInt = (r2.2.1 72 23).toInt := rfl
    refine s_lt (fun kh34 => ?_) (fun kh34 => ?_)
    · have kc35 : 0 ≤ (r6.2.1 72 23).toInt ∧ (r6.2.1 72 23).toInt ≤ 76 := ki27.1 72 23
      have kc36 : (r6.2.1 72 23).toInt = ((sm_w1 r2.2 72 24 (r2.2.1 72 3)).1 72 23).toInt := congrArg Int32.toInt (kf28 72 23 rfl)
      have kc37 : 0 ≤ (r6.2.1 72 6).toInt ∧ (r6.2.1 72 6).toInt ≤ 14 := ki27.1 72 6
      have kc38 : 0 ≤ (r6.2.1 72 25).toInt ∧ (r6.2.1 72 25).toInt ≤ 14 := ki27.1 72 25
      have kc39 := zI.le ki27
      have kc40 : (r6.2.1 72 25).toInt = ((sm_w1 r2.2 72 24 (r2.2.1 72 3)).1 72 25).toInt := congrArg Int32.toInt (kf28 72 25 rfl)
      have kc41 : 0 ≤ ((sm_w1 r2.2 72 24 (r2.2.1 72 3)).1 72 25).toInt ∧ ((sm_w1 r2.2 72 24 (r2.2.1 72 3)).1 72 25).toInt ≤ 14 := ki24.1 72 25
      have kc42 : 0 ≤ ((sm_w1 r2.2 72 24 (r2.2.1 72 3)).1 72 6).toInt ∧ ((sm_w1 r2.2 72 24 (r2.2.1 72 3)).1 72 6).toInt ≤ 14 := ki24.1 72 6
      have kc43 := zI.le ki24
      have kc44 : ((sm_w1 r2.2 72 24 (r2.2.1 72 3)).1 72 6).toInt = (r2.2.1 72 6).toInt := rfl
      have kc45 : 0 ≤ (r2.2.1 72 6).toInt ∧ (r2.2.1 72 6).toInt ≤ 14 := ki6.1 72 6
      have kc46 : 0 ≤ (r2.2.1 72 25).toInt ∧ (r2.2.1 72 25).toInt ≤ 14 := ki6.1 72 25
      have kc47 := zI.le ki6
      have kc48 : (r2.2.1 72 25).toInt = ((sm_w1 m 72 0 (0 : Int32)).1 72 25).toInt := congrArg Int32.toInt (kf7 72 25 rfl)
      have kc49 : 0 ≤ ((sm_w1 m 72 0 (0 : Int32)).1 72 25).toInt ∧ ((sm_w1 m 72 0 (0 : Int32)).1 72 25).toInt ≤ 14 := ki3.1 72 25
      have kc50 : 0 ≤ ((sm_w1 m 72 0 (0 : Int32)).1 72 6).toInt ∧ ((sm_w1 m 72 0 (0 : Int32)).1 72 6).toInt ≤ 14 := ki3.1 72 6
      have kc51 := zI.le ki3
      have kc52 : ((sm_w1 m 72 0 (0 : Int32)).1 72 6).toInt = (m.1 72 6).toInt := rfl
      have kc53 : 0 ≤ (m.1 72 6).toInt ∧ (m.1 72 6).toInt ≤ 14 := hI.1 72 6
      have kc54 : 0 ≤ (m.1 72 25).toInt ∧ (m.1 72 25).toInt ≤ 14 := hI.1 72 25
      have kc55 := zI.le hI
      have kc56 : ((sm_w1 m 72 0 (0 : Int32)).1 72 25).toInt = (m.1 72 25).toInt := rfl
      have kc57 : (r2.2.1 72 6).toInt = ((sm_w1 m 72 0 (0 : Int32)).1 72 6).toInt := congrArg Int32.toInt (kf7 72 6 rfl)
      have kc58 : ((sm_w1 r2.2 72 24 (r2.2.1 72 3)).1 72 25).toInt = (r2.2.1 72 25).toInt := rfl
      have kc59 : (r6.2.1 72 6).toInt = ((sm_w1 r2.2 72 24 (r2.2.1 72 3)).1 72 6).toInt := congrArg Int32.toInt (kf28 72 6 rfl)
      have kf60 : Fr wX12_tour m (sm_w1 m 72 0 (0 : Int32)) := Fr.w Fr.refl rfl
      have kf61 : Fr wX12_tour m r2.2 := Fr.trans kf60 kf7 rfl
      have kf62 : Fr wX12_tour m (sm_w1 r2.2 72 24 (r2.2.1 72 3)) := Fr.w kf61 rfl
      have kf63 : Fr wX12_tour m r6.2 := Fr.trans kf62 kf28 rfl
      exact zX12_tour_62 m sm_fu x1 r2.1 r6.1 r6.1 (0 : Int32) (0 : Int32) (0 : Int32) (0 : Int32) r6.2 (show 0 ≤ x1.toInt ∧ x1.toInt ≤ 1 ∧ 0 ≤ (r2.1).toInt ∧ (r2.1).toInt ≤ 80 ∧ (-1 : Int) ≤ (r6.1).toInt ∧ (r6.1).toInt ≤ 9 ∧ (-1 : Int) ≤ (r6.1).toInt ∧ (r6.1).toInt ≤ 9 ∧ 0 ≤ (0 : Int32).toInt ∧ (0 : Int32).toInt ≤ 30 ∧ 0 ≤ (0 : Int32).toInt ∧ (0 : Int32).toInt ≤ 16383 ∧ 0 ≤ (0 : Int32).toInt ∧ (0 : Int32).toInt ≤ 1 ∧ 2 * (81 - (r6.2.1 72 22).toInt) + (0 : Int32).toInt < (sm_fu : Int) ∧ (r6.2.1 72 23).toInt ≤ 30 ∧ (0 : Int32).toInt ≤ (r6.2.1 72 22).toInt ∧ (1 ≤ (0 : Int32).toInt → 1 ≤ (r6.2.1 72 6).toInt) by omega) ki27 kf63
    · have kc64 := L1
      have kc65 : 0 ≤ (r6.2.1 72 23).toInt ∧ (r6.2.1 72 23).toInt ≤ 76 := ki27.1 72 23
      have kc66 : (r6.2.1 72 23).toInt = ((sm_w1 r2.2 72 24 (r2.2.1 72 3)).1 72 23).toInt := congrArg Int32.toInt (kf28 72 23 rfl)
      have kc67 : 0 ≤ (r6.2.1 72 6).toInt ∧ (r6.2.1 72 6).toInt ≤ 14 := ki27.1 72 6
      have kc68 : 0 ≤ (r6.2.1 72 25).toInt ∧ (r6.2.1 72 25).toInt ≤ 14 := ki27.1 72 25
      have kc69 := zI.le ki27
      have kc70 : (r6.2.1 72 25).toInt = ((sm_w1 r2.2 72 24 (r2.2.1 72 3)).1 72 25).toInt := congrArg Int32.toInt (kf28 72 25 rfl)
      have kc71 : 0 ≤ ((sm_w1 r2.2 72 24 (r2.2.1 72 3)).1 72 25).toInt ∧ ((sm_w1 r2.2 72 24 (r2.2.1 72 3)).1 72 25).toInt ≤ 14 := ki24.1 72 25
      have kc72 : 0 ≤ ((sm_w1 r2.2 72 24 (r2.2.1 72 3)).1 72 6).toInt ∧ ((sm_w1 r2.2 72 24 (r2.2.1 72 3)).1 72 6).toInt ≤ 14 := ki24.1 72 6
      have kc73 := zI.le ki24
      have kc74 : ((sm_w1 r2.2 72 24 (r2.2.1 72 3)).1 72 6).toInt = (r2.2.1 72 6).toInt := rfl
      have kc75 : 0 ≤ (r2.2.1 72 6).toInt ∧ (r2.2.1 72 6).toInt ≤ 14 := ki6.1 72 6
      have kc76 : 0 ≤ (r2.2.1 72 25).toInt ∧ (r2.2.1 72 25).toInt ≤ 14 := ki6.1 72 25
      have kc77 := zI.le ki6
      have kc78 : (r2.2.1 72 25).toInt = ((sm_w1 m 72 0 (0 : Int32)).1 72 25).toInt := congrArg Int32.toInt (kf7 72 25 rfl)
      have kc79 : 0 ≤ ((sm_w1 m 72 0 (0 : Int32)).1 72 25).toInt ∧ ((sm_w1 m 72 0 (0 : Int32)).1 72 25).toInt ≤ 14 := ki3.1 72 25
      have kc80 : 0 ≤ ((sm_w1 m 72 0 (0 : Int32)).1 72 6).toInt ∧ ((sm_w1 m 72 0 (0 : Int32)).1 72 6).toInt ≤ 14 := ki3.1 72 6
      have kc81 := zI.le ki3
      have kc82 : ((sm_w1 m 72 0 (0 : Int32)).1 72 6).toInt = (m.1 72 6).toInt := rfl
      have kc83 : 0 ≤ (m.1 72 6).toInt ∧ (m.1 72 6).toInt ≤ 14 := hI.1 72 6
      have kc84 : 0 ≤ (m.1 72 25).toInt ∧ (m.1 72 25).toInt ≤ 14 := hI.1 72 25
      have kc85 := zI.le hI
      have kc86 : ((sm_w1 m 72 0 (0 : Int32)).1 72 25).toInt = (m.1 72 25).toInt := rfl
      have kc87 : (r2.2.1 72 6).toInt = ((sm_w1 m 72 0 (0 : Int32)).1 72 6).toInt := congrArg Int32.toInt (kf7 72 6 rfl)
      have kc88 : ((sm_w1 r2.2 72 24 (r2.2.1 72 3)).1 72 25).toInt = (r2.2.1 72 25).toInt := rfl
      have kc89 : (r6.2.1 72 6).toInt = ((sm_w1 r2.2 72 24 (r2.2.1 72 3)).1 72 6).toInt := congrArg Int32.toInt (kf28 72 6 rfl)
      have kf90 : Fr wX12_tour m (sm_w1 m 72 0 (0 : Int32)) := Fr.w Fr.refl rfl
      have kf91 : Fr wX12_tour m r2.2 := Fr.trans kf90 kf7 rfl
      have kf92 : Fr wX12_tour m (sm_w1 r2.2 72 24 (r2.2.1 72 3)) := Fr.w kf91 rfl
      have kf93 : Fr wX12_tour m r6.2 := Fr.trans kf92 kf28 rfl
      exact zX12_tour_62 m sm_fu x1 r2.1 r6.1 r6.1 (0 : Int32) (0 : Int32) (0 : Int32) (1 : Int32) r6.2 (show 0 ≤ x1.toInt ∧ x1.toInt ≤ 1 ∧ 0 ≤ (r2.1).toInt ∧ (r2.1).toInt ≤ 80 ∧ (-1 : Int) ≤ (r6.1).toInt ∧ (r6.1).toInt ≤ 9 ∧ (-1 : Int) ≤ (r6.1).toInt ∧ (r6.1).toInt ≤ 9 ∧ 0 ≤ (0 : Int32).toInt ∧ (0 : Int32).toInt ≤ 30 ∧ 0 ≤ (0 : Int32).toInt ∧ (0 : Int32).toInt ≤ 16383 ∧ 0 ≤ (1 : Int32).toInt ∧ (1 : Int32).toInt ≤ 1 ∧ 2 * (81 - (r6.2.1 72 22).toInt) + (1 : Int32).toInt < (sm_fu : Int) ∧ (r6.2.1 72 23).toInt ≤ 30 ∧ (0 : Int32).toInt ≤ (r6.2.1 72 22).toInt ∧ (1 ≤ (0 : Int32).toInt → 1 ≤ (r6.2.1 72 6).toInt) by omega) ki27 kf93
theorem zX12_putsWalker_18 (m0 : sm_S) : ∀ (n : Nat) (v1 : Int32) (m : sm_S), (0 ≤ v1.toInt ∧ v1.toInt ≤ 14 ∧ 14 - v1.toInt < (n : Int)) → zI m → Fr wX12_putsWalker m0 m → Sf (fun r => (True) ∧ zI r ∧ Fr wX12_putsWalker m0 r) (fX12_putsWalker_18 n v1 m) := by
  intro n
  induction n with
  | zero =>
    intro v1 m hp hI hF
    exfalso
    omega
  | succ n ih =>
    intro v1 m hp hI hF
    have hnn : ((n + 1 : Nat) : Int) = (n : Int) + 1 := by omega
    have hfu := fuE
    unfold fX12_putsWalker_18
    have kc1 := L14
    refine s_le (fun kh2 => ?_) (fun kh2 => ?_)
    · exact s_ret ⟨trivial, hI, hF⟩
    · have kx3 : 0 ≤ (v1).toInt ∧ (v1).toInt < (14 : Int) := by omega
      refine s_ix kx3 ?_
      refine s_ix kx3 ?_
      have kc4 : (v1 + (1 : Int32)).toInt = (v1).toInt + 1 := a_addl L1 (by omega) (by omega)
      have ki5 : zI (sm_w1 m 93 (v1).toNatClampNeg (m.1 83 (v1).toNatClampNeg)) := zI.w hI rfl (rg _)
      have kf6 : Fr wX12_putsWalker m0 (sm_w1 m 93 (v1).toNatClampNeg (m.1 83 (v1).toNatClampNeg)) := Fr.w hF rfl
      exact ih (v1 + (1 : Int32)) (sm_w1 m 93 (v1).toNatClampNeg (m.1 83 (v1).toNatClampNeg)) (show 0 ≤ (v1 + (1 : Int32)).toInt ∧ (v1 + (1 : Int32)).toInt ≤ 14 ∧ 14 - (v1 + (1 : Int32)).toInt < (n : Int) by omega) ki5 kf6
theorem zX12_putsWalker (m : sm_S) (hI : zI m) : Sf (fun r => (True) ∧ zI r ∧ Fr wX12_putsWalker m r) (fX12_putsWalker m) := by
  have hfu := fuE
  unfold fX12_putsWalker
  have kc1 := L0
  have kc2 : 0 ≤ (m.1 72 17).toInt ∧ (m.1 72 17).toInt ≤ 9 := hI.1 72 17
  have ki3 : zI (sm_w1 m 72 36 (m.1 72 17)) := zI.w hI rfl (show 0 ≤ ((m.1 72 17)).toInt ∧ ((m.1 72 17)).toInt ≤ 9 by omega)
  have kc4 : 0 ≤ (m.1 72 18).toInt ∧ (m.1 72 18).toInt ≤ 9999 := hI.1 72 18
  have ki5 : zI (sm_w1 (sm_w1 m 72 36 (m.1 72 17)) 72 37 (m.1 72 18)) := zI.w ki3 rfl (show 0 ≤ ((m.1 72 18)).toInt ∧ ((m.1 72 18)).toInt ≤ 9999 by omega)
  have kf6 : Fr wX12_putsWalker m (sm_w1 m 72 36 (m.1 72 17)) := Fr.w Fr.refl rfl
  have kf7 : Fr wX12_putsWalker m (sm_w1 (sm_w1 m 72 36 (m.1 72 17)) 72 37 (m.1 72 18)) := Fr.w kf6 rfl
  exact zX12_putsWalker_18 m sm_fu (0 : Int32) (sm_w1 (sm_w1 m 72 36 (m.1 72 17)) 72 37 (m.1 72 18)) (show 0 ≤ (0 : Int32).toInt ∧ (0 : Int32).toInt ≤ 14 ∧ 14 - (0 : Int32).toInt < (sm_fu : Int) by omega) ki5 kf7
theorem zX12_putsBack_18 (m0 : sm_S) : ∀ (n : Nat) (v1 : Int32) (m : sm_S), (0 ≤ v1.toInt ∧ v1.toInt ≤ 14 ∧ 14 - v1.toInt < (n : Int)) → zI m → Fr wX12_putsBack m0 m → Sf (fun r => (True) ∧ zI r ∧ Fr wX12_putsBack m0 r) (fX12_putsBack_18 n v1 m) := by
  intro n
  induction n with
  | zero =>
    intro v1 m hp hI hF
    exfalso
    omega
  | succ n ih =>
    intro v1 m hp hI hF
    have hnn : ((n + 1 : Nat) : Int) = (n : Int) + 1 := by omega
    have hfu := fuE
    unfold fX12_putsBack_18
    have kc1 := L14
    refine s_le (fun kh2 => ?_) (fun kh2 => ?_)
    · exact s_ret ⟨trivial, hI, hF⟩
    · have kx3 : 0 ≤ (v1).toInt ∧ (v1).toInt < (14 : Int) := by omega
      refine s_ix kx3 ?_
      refine s_ix kx3 ?_
      have kc4 : (v1 + (1 : Int32)).toInt = (v1).toInt + 1 := a_addl L1 (by omega) (by omega)
      have ki5 : zI (sm_w1 m 83 (v1).toNatClampNeg (m.1 93 (v1).toNatClampNeg)) := zI.w hI rfl (rg _)
      have kf6 : Fr wX12_putsBack m0 (sm_w1 m 83 (v1).toNatClampNeg (m.1 93 (v1).toNatClampNeg)) := Fr.w hF rfl
      exact ih (v1 + (1 : Int32)) (sm_w1 m 83 (v1).toNatClampNeg (m.1 93 (v1).toNatClampNeg)) (show 0 ≤ (v1 + (1 : Int32)).toInt ∧ (v1 + (1 : Int32)).toInt ≤ 14 ∧ 14 - (v1 + (1 : Int32)).toInt < (n : Int) by omega) ki5 kf6
theorem zX12_putsBack (m : sm_S) (hI : zI m) : Sf (fun r => (True) ∧ zI r ∧ Fr wX12_putsBack m r) (fX12_putsBack m) := by
  have hfu := fuE
  unfold fX12_putsBack
  have kc1 := L0
  have kc2 : 0 ≤ (m.1 72 36).toInt ∧ (m.1 72 36).toInt ≤ 9 := hI.1 72 36
  have ki3 : zI (sm_w1 m 72 17 (m.1 72 36)) := zI.w hI rfl (show 0 ≤ ((m.1 72 36)).toInt ∧ ((m.1 72 36)).toInt ≤ 9 by omega)
  have kc4 : 0 ≤ (m.1 72 37).toInt ∧ (m.1 72 37).toInt ≤ 9999 := hI.1 72 37
  have ki5 : zI (sm_w1 (sm_w1 m 72 17 (m.1 72 36)) 72 18 (m.1 72 37)) := zI.w ki3 rfl (show 0 ≤ ((m.1 72 37)).toInt ∧ ((m.1 72 37)).toInt ≤ 9999 by omega)
  have kf6 : Fr wX12_putsBack m (sm_w1 m 72 17 (m.1 72 36)) := Fr.w Fr.refl rfl
  have kf7 : Fr wX12_putsBack m (sm_w1 (sm_w1 m 72 17 (m.1 72 36)) 72 18 (m.1 72 37)) := Fr.w kf6 rfl
  exact zX12_putsBack_18 m sm_fu (0 : Int32) (sm_w1 (sm_w1 m 72 17 (m.1 72 36)) 72 18 (m.1 72 37)) (show 0 ≤ (0 : Int32).toInt ∧ (0 : Int32).toInt ≤ 14 ∧ 14 - (0 : Int32).toInt < (sm_fu : Int) by omega) ki5 kf7
theorem zX12_look_57 (m0 : sm_S) : ∀ (n : Nat) (v1 : Int32) (v2 : Int32) (v3 : Int32) (v4 : Int32) (v5 : Int32) (v6 : Int32) (m : sm_S), (0 ≤ v1.toInt ∧ v1.toInt ≤ 1 ∧ (-2 : Int) ≤ v2.toInt ∧ v2.toInt ≤ 29 ∧ (-5 : Int) ≤ v3.toInt ∧ v3.toInt ≤ 0 ∧ 0 ≤ v6.toInt ∧ v6.toInt ≤ 30 ∧ 30 - v6.toInt < (n : Int)) → zI m → Fr wX12_look m0 m → Sf (fun r => (((-3 : Int) ≤ r.1.toInt) ∧ (r.1.toInt ≤ 29)) ∧ zI r.2 ∧ Fr wX12_look m0 r.2) (fX12_look_57 n v1 v2 v3 v4 v5 v6 m) := by
  intro n
  induction n with
  | zero =>
    intro v1 v2 v3 v4 v5 v6 m hp hI hF
    exfalso
    omega
  | succ n ih =>
    intro v1 v2 v3 v4 v5 v6 m hp hI hF
    have hnn : ((n + 1 : Nat) : Int) = (n : Int) + 1 := by omega
    have hfu := fuE
    unfold fX12_look_57
    have kx1 : 0 ≤ (v1).toInt ∧ (v1).toInt < (2 : Int) := by omega
    refine s_ix kx1 ?_
    have kc2 : 0 ≤ (m.1 90 (v1).toNatClampNeg).toInt ∧ (m.1 90 (v1).toNatClampNeg).toInt ≤ 30 := hI.1 90 (v1).toNatClampNeg
    have kc3 : 0 ≤ (m.1 72 6).toInt ∧ (m.1 72 6).toInt ≤ 14 := hI.1 72 6
    have kc4 : 0 ≤ (m.1 72 25).toInt ∧ (m.1 72 25).toInt ≤ 14 := hI.1 72 25
    have kc5 := zI.le hI
    have kc6 := zI.h90 hI (v1).toNatClampNeg
    refine s_le (fun kh7 => ?_) (fun kh7 => ?_)
    · refine s_bd (zX12_putsBack m hI) (fun m9 kr8 => ?_)
      obtain ⟨kp9, ki10, kf11⟩ := kr8
      have kc12 := L0
      have ki13 : zI (sm_w1 m9 72 1 (0 : Int32)) := zI.w ki10 rfl (show 0 ≤ ((0 : Int32)).toInt ∧ ((0 : Int32)).toInt ≤ 24 by omega)
      have kc14 : 0 ≤ ((sm_w1 m9 72 1 (0 : Int32)).1 72 1).toInt ∧ ((sm_w1 m9 72 1 (0 : Int32)).1 72 1).toInt ≤ 24 := ki13.1 72 1
      have kc15 : ((sm_w1 m9 72 1 (0 : Int32)).1 72 1).toInt = ((0 : Int32)).toInt := rfl
      refine s_bd (zX12_enters v3 (sm_w1 m9 72 1 (0 : Int32)) (show ((sm_w1 m9 72 1 (0 : Int32)).1 72 1).toInt ≤ 23 by omega) ki13) (fun m11 kr16 => ?_)
      obtain ⟨kp17, ki18, kf19⟩ := kr16
      replace kp17 : ((m11.1 72 1).toInt = ((sm_w1 m9 72 1 (0 : Int32)).1 72 1).toInt + 1) := kp17
      have kc20 : 0 ≤ (m11.1 72 1).toInt ∧ (m11.1 72 1).toInt ≤ 24 := ki18.1 72 1
      refine s_bd (zX12_enters v4 m11 (show (m11.1 72 1).toInt ≤ 23 by omega) ki18) (fun m13 kr21 => ?_)
      obtain ⟨kp22, ki23, kf24⟩ := kr21
      replace kp22 : ((m13.1 72 1).toInt = (m11.1 72 1).toInt + 1) := kp22
      have kc25 : 0 ≤ (m13.1 72 1).toInt ∧ (m13.1 72 1).toInt ≤ 24 := ki23.1 72 1
      refine s_bd (zX12_enters v5 m13 (show (m13.1 72 1).toInt ≤ 23 by omega) ki23) (fun m15 kr26 => ?_)
      obtain ⟨kp27, ki28, kf29⟩ := kr26
      replace kp27 : ((m15.1 72 1).toInt = (m13.1 72 1).toInt + 1) := kp27
      have kc30 : 0 ≤ (m15.1 72 1).toInt ∧ (m15.1 72 1).toInt ≤ 24 := ki28.1 72 1
      have kf31 : Fr wX12_look m0 m9 := Fr.trans hF kf11 rfl
      have kf32 : Fr wX12_look m0 (sm_w1 m9 72 1 (0 : Int32)) := Fr.w kf31 rfl
      have kf33 : Fr wX12_look m0 m11 := Fr.trans kf32 kf19 rfl
      have kf34 : Fr wX12_look m0 m13 := Fr.trans kf33 kf24 rfl
      have kf35 : Fr wX12_look m0 m15 := Fr.trans kf34 kf29 rfl
      exact s_ret ⟨(show ((-3 : Int) ≤ v2.toInt) ∧ (v2.toInt ≤ 29) by omega), ki28, kf35⟩
    · have kc36 := Ln2
      refine s_eq (fun kh37 => ?_) (fun kh37 => ?_)
      · have kc38 := L30
        have kc39 : ((30 : Int32) * v1).toInt = 30 * (v1).toInt := a_mul L30 rfl (by omega) (by omega)
        have kc40 : (((30 : Int32) * v1) + v6).toInt = (((30 : Int32) * v1)).toInt + (v6).toInt := a_add (by omega) (by omega)
        have kx41 : 0 ≤ ((((30 : Int32) * v1) + v6)).toInt ∧ ((((30 : Int32) * v1) + v6)).toInt < (60 : Int) := by omega
        refine s_ix kx41 ?_
        have kc42 : 0 ≤ (m.1 91 ((((30 : Int32) * v1) + v6)).toNatClampNeg).toInt ∧ (m.1 91 ((((30 : Int32) * v1) + v6)).toNatClampNeg).toInt ≤ 13 := hI.1 91 ((((30 : Int32) * v1) + v6)).toNatClampNeg
        have kc43 := zI.h91 hI ((((30 : Int32) * v1) + v6)).toNatClampNeg
        refine s_bd (zX12_whyNot (m.1 91 ((((30 : Int32) * v1) + v6)).toNatClampNeg) m (show 0 ≤ (m.1 91 ((((30 : Int32) * v1) + v6)).toNatClampNeg).toInt ∧ (m.1 91 ((((30 : Int32) * v1) + v6)).toNatClampNeg).toInt ≤ 13 ∧ (m.1 91 ((((30 : Int32) * v1) + v6)).toNatClampNeg).toInt < (m.1 72 6).toInt by omega) hI) (fun r26 kr44 => ?_)
        replace kr44 : ((-5 : Int) ≤ r26.toInt) ∧ (r26.toInt ≤ 0) ∧ (r26.toInt < 0 ∨ (((m.1 72 17).toInt = (m.1 76 (m.1 91 ((((30 : Int32) * v1) + v6)).toNatClampNeg).toNatClampNeg).toInt ∧ (m.1 72 18).toInt + (m.1 78 (m.1 91 ((((30 : Int32) * v1) + v6)).toNatClampNeg).toNatClampNeg).toInt ≤ (m.1 72 16).toInt) ∨ ((m.1 72 17).toInt ≠ (m.1 76 (m.1 91 ((((30 : Int32) * v1) + v6)).toNatClampNeg).toNatClampNeg).toInt ∧ (m.1 72 18).toInt + (m.1 78 (m.1 91 ((((30 : Int32) * v1) + v6)).toNatClampNeg).toNatClampNeg).toInt + (m.1 82 (m.1 91 ((((30 : Int32) * v1) + v6)).toNatClampNeg).toNatClampNeg).toInt ≤ (m.1 72 16).toInt))) := kr44
        have kc45 : 0 ≤ (m.1 72 17).toInt ∧ (m.1 72 17).toInt ≤ 9 := hI.1 72 17
        have kc46 : 0 ≤ (m.1 72 18).toInt ∧ (m.1 72 18).toInt ≤ 9999 := hI.1 72 18
        have kc47 : 0 ≤ (m.1 72 16).toInt ∧ (m.1 72 16).toInt ≤ 9999 := hI.1 72 16
        have kc48 : (-1 : Int) ≤ (m.1 76 ((m.1 91 ((((30 : Int32) * v1) + v6)).toNatClampNeg)).toNatClampNeg).toInt ∧ (m.1 76 ((m.1 91 ((((30 : Int32) * v1) + v6)).toNatClampNeg)).toNatClampNeg).toInt ≤ 9 := hI.1 76 ((m.1 91 ((((30 : Int32) * v1) + v6)).toNatClampNeg)).toNatClampNeg
        have kc49 : 0 ≤ (m.1 76 ((m.1 91 ((((30 : Int32) * v1) + v6)).toNatClampNeg)).toNatClampNeg).toInt := zI.pf76 hI (m.1 91 ((((30 : Int32) * v1) + v6)).toNatClampNeg) (by omega) (by omega)
        have kc50 : (-1 : Int) ≤ (m.1 78 ((m.1 91 ((((30 : Int32) * v1) + v6)).toNatClampNeg)).toNatClampNeg).toInt ∧ (m.1 78 ((m.1 91 ((((30 : Int32) * v1) + v6)).toNatClampNeg)).toNatClampNeg).toInt ≤ 20 := hI.1 78 ((m.1 91 ((((30 : Int32) * v1) + v6)).toNatClampNeg)).toNatClampNeg
        have kc51 : 1 ≤ (m.1 78 ((m.1 91 ((((30 : Int32) * v1) + v6)).toNatClampNeg)).toNatClampNeg).toInt := zI.pf78 hI (m.1 91 ((((30 : Int32) * v1) + v6)).toNatClampNeg) (by omega) (by omega)
        have kc52 : (-1 : Int) ≤ (m.1 82 ((m.1 91 ((((30 : Int32) * v1) + v6)).toNatClampNeg)).toNatClampNeg).toInt ∧ (m.1 82 ((m.1 91 ((((30 : Int32) * v1) + v6)).toNatClampNeg)).toNatClampNeg).toInt ≤ 9 := hI.1 82 ((m.1 91 ((((30 : Int32) * v1) + v6)).toNatClampNeg)).toNatClampNeg
        have kc53 : 0 ≤ (m.1 82 ((m.1 91 ((((30 : Int32) * v1) + v6)).toNatClampNeg)).toNatClampNeg).toInt := zI.pf82 hI (m.1 91 ((((30 : Int32) * v1) + v6)).toNatClampNeg) (by omega) (by omega)
        have kc54 := L0
        refine s_le (fun kh55 => ?_) (fun kh55 => ?_)
        · refine s_bd (zX12_walks (m.1 91 ((((30 : Int32) * v1) + v6)).toNatClampNeg) m (show 0 ≤ (m.1 91 ((((30 : Int32) * v1) + v6)).toNatClampNeg).toInt ∧ (m.1 91 ((((30 : Int32) * v1) + v6)).toNatClampNeg).toInt ≤ 13 ∧ (m.1 91 ((((30 : Int32) * v1) + v6)).toNatClampNeg).toInt < (m.1 72 6).toInt ∧ (((m.1 72 17).toInt = (m.1 76 (m.1 91 ((((30 : Int32) * v1) + v6)).toNatClampNeg).toNatClampNeg).toInt ∧ (m.1 72 18).toInt + (m.1 78 (m.1 91 ((((30 : Int32) * v1) + v6)).toNatClampNeg).toNatClampNeg).toInt ≤ 9999) ∨ ((m.1 72 17).toInt ≠ (m.1 76 (m.1 91 ((((30 : Int32) * v1) + v6)).toNatClampNeg).toNatClampNeg).toInt ∧ (m.1 72 18).toInt + (m.1 78 (m.1 91 ((((30 : Int32) * v1) + v6)).toNatClampNeg).toNatClampNeg).toInt + (m.1 82 (m.1 91 ((((30 : Int32) * v1) + v6)).toNatClampNeg).toNatClampNeg).toInt ≤ 9999)) by omega) hI) (fun r28 kr56 => ?_)
          obtain ⟨kp57, ki58, kf59⟩ := kr56
          replace kp57 : (1 ≤ r28.1.toInt) ∧ (r28.1.toInt ≤ 29) := kp57
          have kx60 : 0 ≤ ((m.1 91 ((((30 : Int32) * v1) + v6)).toNatClampNeg)).toInt ∧ ((m.1 91 ((((30 : Int32) * v1) + v6)).toNatClampNeg)).toInt < (14 : Int) := by omega
          refine s_ix kx60 ?_
          have kc61 : (-1 : Int) ≤ (r28.2.1 81 ((m.1 91 ((((30 : Int32) * v1) + v6)).toNatClampNeg)).toNatClampNeg).toInt ∧ (r28.2.1 81 ((m.1 91 ((((30 : Int32) * v1) + v6)).toNatClampNeg)).toNatClampNeg).toInt ≤ 9 := ki58.1 81 ((m.1 91 ((((30 : Int32) * v1) + v6)).toNatClampNeg)).toNatClampNeg
          have kc62 : (r28.2.1 81 ((m.1 91 ((((30 : Int32) * v1) + v6)).toNatClampNeg)).toNatClampNeg).toInt = (m.1 81 ((m.1 91 ((((30 : Int32) * v1) + v6)).toNatClampNeg)).toNatClampNeg).toInt := congrArg Int32.toInt (kf59 81 ((m.1 91 ((((30 : Int32) * v1) + v6)).toNatClampNeg)).toNatClampNeg rfl)
          have kc63 : (-1 : Int) ≤ (m.1 81 ((m.1 91 ((((30 : Int32) * v1) + v6)).toNatClampNeg)).toNatClampNeg).toInt ∧ (m.1 81 ((m.1 91 ((((30 : Int32) * v1) + v6)).toNatClampNeg)).toNatClampNeg).toInt ≤ 9 := hI.1 81 ((m.1 91 ((((30 : Int32) * v1) + v6)).toNatClampNeg)).toNatClampNeg
          have kc64 : (v6 + (1 : Int32)).toInt = (v6).toInt + 1 := a_addl L1 (by omega) (by omega)
          have kf65 : Fr wX12_look m0 r28.2 := Fr.trans hF kf59 rfl
          exact ih v1 v2 r26 (v4 + r28.1) (v5 + (r28.2.1 81 ((m.1 91 ((((30 : Int32) * v1) + v6)).toNatClampNeg)).toNatClampNeg)) (v6 + (1 : Int32)) r28.2 (show 0 ≤ v1.toInt ∧ v1.toInt ≤ 1 ∧ (-2 : Int) ≤ v2.toInt ∧ v2.toInt ≤ 29 ∧ (-5 : Int) ≤ r26.toInt ∧ r26.toInt ≤ 0 ∧ 0 ≤ (v6 + (1 : Int32)).toInt ∧ (v6 + (1 : Int32)).toInt ≤ 30 ∧ 30 - (v6 + (1 : Int32)).toInt < (n : Int) by omega) ki58 kf65
        · have kc66 : (v6 + (1 : Int32)).toInt = (v6).toInt + 1 := a_addl L1 (by omega) (by omega)
          exact ih v1 v6 r26 v4 v5 (v6 + (1 : Int32)) m (show 0 ≤ v1.toInt ∧ v1.toInt ≤ 1 ∧ (-2 : Int) ≤ v6.toInt ∧ v6.toInt ≤ 29 ∧ (-5 : Int) ≤ r26.toInt ∧ r26.toInt ≤ 0 ∧ 0 ≤ (v6 + (1 : Int32)).toInt ∧ (v6 + (1 : Int32)).toInt ≤ 30 ∧ 30 - (v6 + (1 : Int32)).toInt < (n : Int) by omega) hI hF
      · refine s_bd (zX12_putsBack m hI) (fun m17 kr67 => ?_)
        obtain ⟨kp68, ki69, kf70⟩ := kr67
        have kc71 := L0
        have ki72 : zI (sm_w1 m17 72 1 (0 : Int32)) := zI.w ki69 rfl (show 0 ≤ ((0 : Int32)).toInt ∧ ((0 : Int32)).toInt ≤ 24 by omega)
        have kc73 : 0 ≤ ((sm_w1 m17 72 1 (0 : Int32)).1 72 1).toInt ∧ ((sm_w1 m17 72 1 (0 : Int32)).1 72 1).toInt ≤ 24 := ki72.1 72 1
        have kc74 : ((sm_w1 m17 72 1 (0 : Int32)).1 72 1).toInt = ((0 : Int32)).toInt := rfl
        refine s_bd (zX12_enters v3 (sm_w1 m17 72 1 (0 : Int32)) (show ((sm_w1 m17 72 1 (0 : Int32)).1 72 1).toInt ≤ 23 by omega) ki72) (fun m19 kr75 => ?_)
        obtain ⟨kp76, ki77, kf78⟩ := kr75
        replace kp76 : ((m19.1 72 1).toInt = ((sm_w1 m17 72 1 (0 : Int32)).1 72 1).toInt + 1) := kp76
        have kc79 : 0 ≤ (m19.1 72 1).toInt ∧ (m19.1 72 1).toInt ≤ 24 := ki77.1 72 1
        refine s_bd (zX12_enters v4 m19 (show (m19.1 72 1).toInt ≤ 23 by omega) ki77) (fun m21 kr80 => ?_)
        obtain ⟨kp81, ki82, kf83⟩ := kr80
        replace kp81 : ((m21.1 72 1).toInt = (m19.1 72 1).toInt + 1) := kp81
        have kc84 : 0 ≤ (m21.1 72 1).toInt ∧ (m21.1 72 1).toInt ≤ 24 := ki82.1 72 1
        refine s_bd (zX12_enters v5 m21 (show (m21.1 72 1).toInt ≤ 23 by omega) ki82) (fun m23 kr85 => ?_)
        obtain ⟨kp86, ki87, kf88⟩ := kr85
        replace kp86 : ((m23.1 72 1).toInt = (m21.1 72 1).toInt + 1) := kp86
        have kc89 : 0 ≤ (m23.1 72 1).toInt ∧ (m23.1 72 1).toInt ≤ 24 := ki87.1 72 1
        have kf90 : Fr wX12_look m0 m17 := Fr.trans hF kf70 rfl
        have kf91 : Fr wX12_look m0 (sm_w1 m17 72 1 (0 : Int32)) := Fr.w kf90 rfl
        have kf92 : Fr wX12_look m0 m19 := Fr.trans kf91 kf78 rfl
        have kf93 : Fr wX12_look m0 m21 := Fr.trans kf92 kf83 rfl
        have kf94 : Fr wX12_look m0 m23 := Fr.trans kf93 kf88 rfl
        exact s_ret ⟨(show ((-3 : Int) ≤ v2.toInt) ∧ (v2.toInt ≤ 29) by omega), ki87, kf94⟩
theorem zX12_look (x1 : Int32) (m : sm_S) (hI : zI m) : Sf (fun r => (((-3 : Int) ≤ r.1.toInt) ∧ (r.1.toInt ≤ 29)) ∧ zI r.2 ∧ Fr wX12_look m r.2) (fX12_look x1 m) := by
  have hfu := fuE
  unfold fX12_look
  have kc1 : (x1).toInt64.toInt = (x1).toInt := Int32.toInt_toInt64 _
  have kc2 := LL0
  have kc3 := LL1
  have kc4 := L0
  have ki5 : zI (sm_w1 m 72 0 (0 : Int32)) := zI.w hI rfl (show 0 ≤ ((0 : Int32)).toInt ∧ ((0 : Int32)).toInt ≤ 1 by omega)
  refine s_bd (zX12_in (x1).toInt64 (0 : Int64) (1 : Int64) (sm_w1 m 72 0 (0 : Int32)) (show (-1 : Int) ≤ (0 : Int64).toInt ∧ (0 : Int64).toInt ≤ 48 ∧ (-1 : Int) ≤ (1 : Int64).toInt ∧ (1 : Int64).toInt ≤ 9999 by omega) ki5) (fun r2 kr6 => ?_)
  replace kr6 : (0 ≤ r2.toInt) ∧ (r2.toInt ≤ 1) ∧ ((r2.toInt = 0 ∧ ((x1).toInt64.toInt < (0 : Int64).toInt ∨ (1 : Int64).toInt < (x1).toInt64.toInt)) ∨ (r2.toInt = 1 ∧ (0 : Int64).toInt ≤ (x1).toInt64.toInt ∧ (x1).toInt64.toInt ≤ (1 : Int64).toInt)) := kr6
  refine s_eq (fun kh7 => ?_) (fun kh7 => ?_)
  · have kc8 := Ln1
    have kf9 : Fr wX12_look m (sm_w1 m 72 0 (0 : Int32)) := Fr.w Fr.refl rfl
    exact s_ret ⟨(show ((-3 : Int) ≤ (-1 : Int32).toInt) ∧ ((-1 : Int32).toInt ≤ 29) by omega), ki5, kf9⟩
  · have kx10 : 0 ≤ (x1).toInt ∧ (x1).toInt < (2 : Int) := by omega
    refine s_ix kx10 ?_
    have kc11 : (-1 : Int) ≤ (m.1 89 (x1).toNatClampNeg).toInt ∧ (m.1 89 (x1).toNatClampNeg).toInt ≤ 9 := hI.1 89 (x1).toNatClampNeg
    refine s_le (fun kh12 => ?_) (fun kh12 => ?_)
    · refine s_bd (zX12_putsWalker (sm_w1 m 72 0 (0 : Int32)) ki5) (fun m5 kr13 => ?_)
      obtain ⟨kp14, ki15, kf16⟩ := kr13
      refine s_ix kx10 ?_
      have kc17 := Ln2
      have kc18 : (-1 : Int) ≤ (m5.1 89 (x1).toNatClampNeg).toInt ∧ (m5.1 89 (x1).toNatClampNeg).toInt ≤ 9 := ki15.1 89 (x1).toNatClampNeg
      have kc19 : (m5.1 89 (x1).toNatClampNeg).toInt = ((sm_w1 m 72 0 (0 : Int32)).1 89 (x1).toNatClampNeg).toInt := congrArg Int32.toInt (kf16 89 (x1).toNatClampNeg rfl)
      have kc20 : (-1 : Int) ≤ ((sm_w1 m 72 0 (0 : Int32)).1 89 (x1).toNatClampNeg).toInt ∧ ((sm_w1 m 72 0 (0 : Int32)).1 89 (x1).toNatClampNeg).toInt ≤ 9 := ki5.1 89 (x1).toNatClampNeg
      have kc21 : ((sm_w1 m 72 0 (0 : Int32)).1 89 (x1).toNatClampNeg).toInt = (m.1 89 (x1).toNatClampNeg).toInt := congrArg Int32.toInt (r_cell (by decide))
      have ki22 : zI (sm_w1 m5 72 17 (m5.1 89 (x1).toNatClampNeg)) := zI.w ki15 rfl (show 0 ≤ ((m5.1 89 (x1).toNatClampNeg)).toInt ∧ ((m5.1 89 (x1).toNatClampNeg)).toInt ≤ 9 by omega)
      have kf23 : Fr wX12_look m (sm_w1 m 72 0 (0 : Int32)) := Fr.w Fr.refl rfl
      have kf24 : Fr wX12_look m m5 := Fr.trans kf23 kf16 rfl
      have kf25 : Fr wX12_look m (sm_w1 m5 72 17 (m5.1 89 (x1).toNatClampNeg)) := Fr.w kf24 rfl
      exact zX12_look_57 m sm_fu x1 (-2 : Int32) (0 : Int32) (0 : Int32) (0 : Int32) (0 : Int32) (sm_w1 m5 72 17 (m5.1 89 (x1).toNatClampNeg)) (show 0 ≤ x1.toInt ∧ x1.toInt ≤ 1 ∧ (-2 : Int) ≤ (-2 : Int32).toInt ∧ (-2 : Int32).toInt ≤ 29 ∧ (-5 : Int) ≤ (0 : Int32).toInt ∧ (0 : Int32).toInt ≤ 0 ∧ 0 ≤ (0 : Int32).toInt ∧ (0 : Int32).toInt ≤ 30 ∧ 30 - (0 : Int32).toInt < (sm_fu : Int) by omega) ki22 kf25
    · have kc26 := Ln3
      have kf27 : Fr wX12_look m (sm_w1 m 72 0 (0 : Int32)) := Fr.w Fr.refl rfl
      exact s_ret ⟨(show ((-3 : Int) ≤ (-3 : Int32).toInt) ∧ ((-3 : Int32).toInt ≤ 29) by omega), ki5, kf27⟩
theorem zX12_cornerOf_28 (m0 : sm_S) : ∀ (n : Nat) (v1 : Int32) (v3 : Int32) (v4 : Int32) (v5 : Int32) (v6 : Int32) (v7 : Int32) (m : sm_S), (0 ≤ v1.toInt ∧ v1.toInt ≤ 1 ∧ 0 ≤ v3.toInt ∧ v3.toInt ≤ 969 ∧ (-1 : Int) ≤ v4.toInt ∧ v4.toInt ≤ 9 ∧ 0 ≤ v5.toInt ∧ v5.toInt ≤ 969 ∧ (-1 : Int) ≤ v6.toInt ∧ v6.toInt ≤ 9 ∧ 0 ≤ v7.toInt ∧ v7.toInt ≤ 30 ∧ 30 - v7.toInt < (n : Int) ∧ 0 ≤ v5.toInt ∧ v5.toInt ≤ 99 + 29 * v7.toInt) → zI m → Fr wX12_cornerOf m0 m → Sf (fun r => (((-1 : Int) ≤ r.1.toInt) ∧ (r.1.toInt ≤ 9)) ∧ zI r.2 ∧ Fr wX12_cornerOf m0 r.2) (fX12_cornerOf_28 n v1 v3 v4 v5 v6 v7 m) := by
  intro n
  induction n with
  | zero =>
    intro v1 v3 v4 v5 v6 v7 m hp hI hF
    exfalso
    omega
  | succ n ih =>
    intro v1 v3 v4 v5 v6 v7 m hp hI hF
    have hnn : ((n + 1 : Nat) : Int) = (n : Int) + 1 := by omega
    have hfu := fuE
    unfold fX12_cornerOf_28
    have kx1 : 0 ≤ (v1).toInt ∧ (v1).toInt < (2 : Int) := by omega
    refine s_ix kx1 ?_
    have kc2 : 0 ≤ (m.1 90 (v1).toNatClampNeg).toInt ∧ (m.1 90 (v1).toNatClampNeg).toInt ≤ 30 := hI.1 90 (v1).toNatClampNeg
    have kc3 : 0 ≤ (m.1 72 6).toInt ∧ (m.1 72 6).toInt ≤ 14 := hI.1 72 6
    have kc4 : 0 ≤ (m.1 72 25).toInt ∧ (m.1 72 25).toInt ≤ 14 := hI.1 72 25
    have kc5 := zI.le hI
    have kc6 := zI.h90 hI (v1).toNatClampNeg
    refine s_le (fun kh7 => ?_) (fun kh7 => ?_)
    · refine s_lt (fun kh8 => ?_) (fun kh8 => ?_)
      · have ki9 : zI (sm_w1 m 72 39 v5) := zI.w hI rfl (show 0 ≤ (v5).toInt ∧ (v5).toInt ≤ 969 by omega)
        have kf10 : Fr wX12_cornerOf m0 (sm_w1 m 72 39 v5) := Fr.w hF rfl
        exact s_ret ⟨(show ((-1 : Int) ≤ v6.toInt) ∧ (v6.toInt ≤ 9) by omega), ki9, kf10⟩
      · have ki11 : zI (sm_w1 m 72 39 v5) := zI.w hI rfl (show 0 ≤ (v5).toInt ∧ (v5).toInt ≤ 969 by omega)
        have kf12 : Fr wX12_cornerOf m0 (sm_w1 m 72 39 v5) := Fr.w hF rfl
        exact s_ret ⟨(show ((-1 : Int) ≤ v4.toInt) ∧ (v4.toInt ≤ 9) by omega), ki11, kf12⟩
    · have kc13 := L30
      have kc14 : ((30 : Int32) * v1).toInt = 30 * (v1).toInt := a_mul L30 rfl (by omega) (by omega)
      have kc15 : (((30 : Int32) * v1) + v7).toInt = (((30 : Int32) * v1)).toInt + (v7).toInt := a_add (by omega) (by omega)
      have kx16 : 0 ≤ ((((30 : Int32) * v1) + v7)).toInt ∧ ((((30 : Int32) * v1) + v7)).toInt < (60 : Int) := by omega
      refine s_ix kx16 ?_
      have kc17 : 0 ≤ (m.1 91 ((((30 : Int32) * v1) + v7)).toNatClampNeg).toInt ∧ (m.1 91 ((((30 : Int32) * v1) + v7)).toNatClampNeg).toInt ≤ 13 := hI.1 91 ((((30 : Int32) * v1) + v7)).toNatClampNeg
      have kc18 := zI.h91 hI ((((30 : Int32) * v1) + v7)).toNatClampNeg
      refine s_bd (zX12_minutesFrom (m.1 91 ((((30 : Int32) * v1) + v7)).toNatClampNeg) v4 m (show 0 ≤ (m.1 91 ((((30 : Int32) * v1) + v7)).toNatClampNeg).toInt ∧ (m.1 91 ((((30 : Int32) * v1) + v7)).toNatClampNeg).toInt ≤ 13 ∧ (-1 : Int) ≤ v4.toInt ∧ v4.toInt ≤ 9 ∧ (m.1 91 ((((30 : Int32) * v1) + v7)).toNatClampNeg).toInt < (m.1 72 6).toInt by omega) hI) (fun r5 kr19 => ?_)
      replace kr19 : (1 ≤ r5.toInt) ∧ (r5.toInt ≤ 29) ∧ ((v4.toInt = (m.1 76 (m.1 91 ((((30 : Int32) * v1) + v7)).toNatClampNeg).toNatClampNeg).toInt ∧ r5.toInt = (m.1 78 (m.1 91 ((((30 : Int32) * v1) + v7)).toNatClampNeg).toNatClampNeg).toInt) ∨ (v4.toInt ≠ (m.1 76 (m.1 91 ((((30 : Int32) * v1) + v7)).toNatClampNeg).toNatClampNeg).toInt ∧ r5.toInt = (m.1 78 (m.1 91 ((((30 : Int32) * v1) + v7)).toNatClampNeg).toNatClampNeg).toInt + (m.1 82 (m.1 91 ((((30 : Int32) * v1) + v7)).toNatClampNeg).toNatClampNeg).toInt)) := kr19
      have kc20 : (-1 : Int) ≤ (m.1 76 ((m.1 91 ((((30 : Int32) * v1) + v7)).toNatClampNeg)).toNatClampNeg).toInt ∧ (m.1 76 ((m.1 91 ((((30 : Int32) * v1) + v7)).toNatClampNeg)).toNatClampNeg).toInt ≤ 9 := hI.1 76 ((m.1 91 ((((30 : Int32) * v1) + v7)).toNatClampNeg)).toNatClampNeg
      have kc21 : 0 ≤ (m.1 76 ((m.1 91 ((((30 : Int32) * v1) + v7)).toNatClampNeg)).toNatClampNeg).toInt := zI.pf76 hI (m.1 91 ((((30 : Int32) * v1) + v7)).toNatClampNeg) (by omega) (by omega)
      have kc22 : (-1 : Int) ≤ (m.1 78 ((m.1 91 ((((30 : Int32) * v1) + v7)).toNatClampNeg)).toNatClampNeg).toInt ∧ (m.1 78 ((m.1 91 ((((30 : Int32) * v1) + v7)).toNatClampNeg)).toNatClampNeg).toInt ≤ 20 := hI.1 78 ((m.1 91 ((((30 : Int32) * v1) + v7)).toNatClampNeg)).toNatClampNeg
      have kc23 : 1 ≤ (m.1 78 ((m.1 91 ((((30 : Int32) * v1) + v7)).toNatClampNeg)).toNatClampNeg).toInt := zI.pf78 hI (m.1 91 ((((30 : Int32) * v1) + v7)).toNatClampNeg) (by omega) (by omega)
      have kc24 : (-1 : Int) ≤ (m.1 82 ((m.1 91 ((((30 : Int32) * v1) + v7)).toNatClampNeg)).toNatClampNeg).toInt ∧ (m.1 82 ((m.1 91 ((((30 : Int32) * v1) + v7)).toNatClampNeg)).toNatClampNeg).toInt ≤ 9 := hI.1 82 ((m.1 91 ((((30 : Int32) * v1) + v7)).toNatClampNeg)).toNatClampNeg
      have kc25 : 0 ≤ (m.1 82 ((m.1 91 ((((30 : Int32) * v1) + v7)).toNatClampNeg)).toNatClampNeg).toInt := zI.pf82 hI (m.1 91 ((((30 : Int32) * v1) + v7)).toNatClampNeg) (by omega) (by omega)
      refine s_bd (zX12_endOf (m.1 91 ((((30 : Int32) * v1) + v7)).toNatClampNeg) v4 m (show 0 ≤ (m.1 91 ((((30 : Int32) * v1) + v7)).toNatClampNeg).toInt ∧ (m.1 91 ((((30 : Int32) * v1) + v7)).toNatClampNeg).toInt ≤ 13 ∧ (-1 : Int) ≤ v4.toInt ∧ v4.toInt ≤ 9 ∧ (m.1 91 ((((30 : Int32) * v1) + v7)).toNatClampNeg).toInt < (m.1 72 6).toInt by omega) hI) (fun r7 kr26 => ?_)
      replace kr26 : (0 ≤ r7.toInt) ∧ (r7.toInt ≤ 9) := kr26
      have kc27 : (v5 + r5).toInt = (v5).toInt + (r5).toInt := a_add (by omega) (by omega)
      refine s_eq (fun kh28 => ?_) (fun kh28 => ?_)
      · have kc29 : (v7 + (1 : Int32)).toInt = (v7).toInt + 1 := a_addl L1 (by omega) (by omega)
        exact ih v1 v3 r7 (v5 + r5) r7 (v7 + (1 : Int32)) m (show 0 ≤ v1.toInt ∧ v1.toInt ≤ 1 ∧ 0 ≤ v3.toInt ∧ v3.toInt ≤ 969 ∧ (-1 : Int) ≤ r7.toInt ∧ r7.toInt ≤ 9 ∧ 0 ≤ (v5 + r5).toInt ∧ (v5 + r5).toInt ≤ 969 ∧ (-1 : Int) ≤ r7.toInt ∧ r7.toInt ≤ 9 ∧ 0 ≤ (v7 + (1 : Int32)).toInt ∧ (v7 + (1 : Int32)).toInt ≤ 30 ∧ 30 - (v7 + (1 : Int32)).toInt < (n : Int) ∧ 0 ≤ (v5 + r5).toInt ∧ (v5 + r5).toInt ≤ 99 + 29 * (v7 + (1 : Int32)).toInt by omega) hI hF
      · have kc30 : (v7 + (1 : Int32)).toInt = (v7).toInt + 1 := a_addl L1 (by omega) (by omega)
        exact ih v1 v3 r7 (v5 + r5) v6 (v7 + (1 : Int32)) m (show 0 ≤ v1.toInt ∧ v1.toInt ≤ 1 ∧ 0 ≤ v3.toInt ∧ v3.toInt ≤ 969 ∧ (-1 : Int) ≤ r7.toInt ∧ r7.toInt ≤ 9 ∧ 0 ≤ (v5 + r5).toInt ∧ (v5 + r5).toInt ≤ 969 ∧ (-1 : Int) ≤ v6.toInt ∧ v6.toInt ≤ 9 ∧ 0 ≤ (v7 + (1 : Int32)).toInt ∧ (v7 + (1 : Int32)).toInt ≤ 30 ∧ 30 - (v7 + (1 : Int32)).toInt < (n : Int) ∧ 0 ≤ (v5 + r5).toInt ∧ (v5 + r5).toInt ≤ 99 + 29 * (v7 + (1 : Int32)).toInt by omega) hI hF
theorem zX12_cornerOf (x1 : Int32) (x2 : Int32) (x3 : Int32) (m : sm_S) (hp : 0 ≤ x1.toInt ∧ x1.toInt ≤ 1 ∧ 0 ≤ x2.toInt ∧ x2.toInt ≤ 99 ∧ 0 ≤ x3.toInt ∧ x3.toInt ≤ 969) (hI : zI m) : Sf (fun r => (((-1 : Int) ≤ r.1.toInt) ∧ (r.1.toInt ≤ 9)) ∧ zI r.2 ∧ Fr wX12_cornerOf m r.2) (fX12_cornerOf x1 x2 x3 m) := by
  have hfu := fuE
  unfold fX12_cornerOf
  have kx1 : 0 ≤ (x1).toInt ∧ (x1).toInt < (2 : Int) := by omega
  refine s_ix kx1 ?_
  refine s_lt (fun kh2 => ?_) (fun kh2 => ?_)
  · have kc3 : (-1 : Int) ≤ (m.1 89 (x1).toNatClampNeg).toInt ∧ (m.1 89 (x1).toNatClampNeg).toInt ≤ 9 := hI.1 89 (x1).toNatClampNeg
    have kc4 := Ln1
    have kc5 := L0
    exact zX12_cornerOf_28 m sm_fu x1 x3 (m.1 89 (x1).toNatClampNeg) x2 (-1 : Int32) (0 : Int32) m (show 0 ≤ x1.toInt ∧ x1.toInt ≤ 1 ∧ 0 ≤ x3.toInt ∧ x3.toInt ≤ 969 ∧ (-1 : Int) ≤ (m.1 89 (x1).toNatClampNeg).toInt ∧ (m.1 89 (x1).toNatClampNeg).toInt ≤ 9 ∧ 0 ≤ x2.toInt ∧ x2.toInt ≤ 969 ∧ (-1 : Int) ≤ (-1 : Int32).toInt ∧ (-1 : Int32).toInt ≤ 9 ∧ 0 ≤ (0 : Int32).toInt ∧ (0 : Int32).toInt ≤ 30 ∧ 30 - (0 : Int32).toInt < (sm_fu : Int) ∧ 0 ≤ x2.toInt ∧ x2.toInt ≤ 99 + 29 * (0 : Int32).toInt by omega) hI Fr.refl
  · have kc6 : (-1 : Int) ≤ (m.1 89 (x1).toNatClampNeg).toInt ∧ (m.1 89 (x1).toNatClampNeg).toInt ≤ 9 := hI.1 89 (x1).toNatClampNeg
    have kc7 := L0
    exact zX12_cornerOf_28 m sm_fu x1 x3 (m.1 89 (x1).toNatClampNeg) x2 (m.1 89 (x1).toNatClampNeg) (0 : Int32) m (show 0 ≤ x1.toInt ∧ x1.toInt ≤ 1 ∧ 0 ≤ x3.toInt ∧ x3.toInt ≤ 969 ∧ (-1 : Int) ≤ (m.1 89 (x1).toNatClampNeg).toInt ∧ (m.1 89 (x1).toNatClampNeg).toInt ≤ 9 ∧ 0 ≤ x2.toInt ∧ x2.toInt ≤ 969 ∧ (-1 : Int) ≤ (m.1 89 (x1).toNatClampNeg).toInt ∧ (m.1 89 (x1).toNatClampNeg).toInt ≤ 9 ∧ 0 ≤ (0 : Int32).toInt ∧ (0 : Int32).toInt ≤ 30 ∧ 30 - (0 : Int32).toInt < (sm_fu : Int) ∧ 0 ≤ x2.toInt ∧ x2.toInt ≤ 99 + 29 * (0 : Int32).toInt by omega) hI Fr.refl
theorem zX12_meetsBy_32 (m0 : sm_S) : ∀ (n : Nat) (v1 : Int32) (v2 : Int32) (v3 : Int32) (m : sm_S), (0 ≤ v1.toInt ∧ v1.toInt ≤ 99 ∧ 0 ≤ v2.toInt ∧ v2.toInt ≤ 969 ∧ 0 ≤ v3.toInt ∧ v3.toInt ≤ 1023 ∧ 1023 - v3.toInt < (n : Int)) → zI m → Fr wX12_meetsBy m0 m → Sf (fun r => (((-2 : Int) ≤ r.1.toInt) ∧ (r.1.toInt ≤ 969)) ∧ zI r.2 ∧ Fr wX12_meetsBy m0 r.2) (fX12_meetsBy_32 n v1 v2 v3 m) := by
  intro n
  induction n with
  | zero =>
    intro v1 v2 v3 m hp hI hF
    exfalso
    omega
  | succ n ih =>
    intro v1 v2 v3 m hp hI hF
    have hnn : ((n + 1 : Nat) : Int) = (n : Int) + 1 := by omega
    have hfu := fuE
    unfold fX12_meetsBy_32
    refine s_lt (fun kh1 => ?_) (fun kh1 => ?_)
    · have kc2 := Ln2
      exact s_ret ⟨(show ((-2 : Int) ≤ (-2 : Int32).toInt) ∧ ((-2 : Int32).toInt ≤ 969) by omega), hI, hF⟩
    · have kc3 := L0
      refine s_bd (zX12_cornerOf (0 : Int32) (0 : Int32) v3 m (show 0 ≤ (0 : Int32).toInt ∧ (0 : Int32).toInt ≤ 1 ∧ 0 ≤ (0 : Int32).toInt ∧ (0 : Int32).toInt ≤ 99 ∧ 0 ≤ v3.toInt ∧ v3.toInt ≤ 969 by omega) hI) (fun r6 kr4 => ?_)
      obtain ⟨kp5, ki6, kf7⟩ := kr4
      replace kp5 : ((-1 : Int) ≤ r6.1.toInt) ∧ (r6.1.toInt ≤ 9) := kp5
      refine s_lt (fun kh8 => ?_) (fun kh8 => ?_)
      · have kc9 : (v3 + (1 : Int32)).toInt = (v3).toInt + 1 := a_addl L1 (by omega) (by omega)
        have kf10 : Fr wX12_meetsBy m0 r6.2 := Fr.trans hF kf7 rfl
        exact ih v1 v2 (v3 + (1 : Int32)) r6.2 (show 0 ≤ v1.toInt ∧ v1.toInt ≤ 99 ∧ 0 ≤ v2.toInt ∧ v2.toInt ≤ 969 ∧ 0 ≤ (v3 + (1 : Int32)).toInt ∧ (v3 + (1 : Int32)).toInt ≤ 1023 ∧ 1023 - (v3 + (1 : Int32)).toInt < (n : Int) by omega) ki6 kf10
      · have kc11 := L1
        refine s_bd (zX12_cornerOf (1 : Int32) v1 v3 r6.2 (show 0 ≤ (1 : Int32).toInt ∧ (1 : Int32).toInt ≤ 1 ∧ 0 ≤ v1.toInt ∧ v1.toInt ≤ 99 ∧ 0 ≤ v3.toInt ∧ v3.toInt ≤ 969 by omega) ki6) (fun r8 kr12 => ?_)
        obtain ⟨kp13, ki14, kf15⟩ := kr12
        replace kp13 : ((-1 : Int) ≤ r8.1.toInt) ∧ (r8.1.toInt ≤ 9) := kp13
        refine s_eq (fun kh16 => ?_) (fun kh16 => ?_)
        · have kf17 : Fr wX12_meetsBy m0 r6.2 := Fr.trans hF kf7 rfl
          have kf18 : Fr wX12_meetsBy m0 r8.2 := Fr.trans kf17 kf15 rfl
          exact s_ret ⟨(show ((-2 : Int) ≤ v3.toInt) ∧ (v3.toInt ≤ 969) by omega), ki14, kf18⟩
        · have kc19 : (v3 + (1 : Int32)).toInt = (v3).toInt + 1 := a_addl L1 (by omega) (by omega)
          have kf20 : Fr wX12_meetsBy m0 r6.2 := Fr.trans hF kf7 rfl
          have kf21 : Fr wX12_meetsBy m0 r8.2 := Fr.trans kf20 kf15 rfl
          exact ih v1 v2 (v3 + (1 : Int32)) r8.2 (show 0 ≤ v1.toInt ∧ v1.toInt ≤ 99 ∧ 0 ≤ v2.toInt ∧ v2.toInt ≤ 969 ∧ 0 ≤ (v3 + (1 : Int32)).toInt ∧ (v3 + (1 : Int32)).toInt ≤ 1023 ∧ 1023 - (v3 + (1 : Int32)).toInt < (n : Int) by omega) ki14 kf21
theorem zX12_meetsBy (x1 : Int32) (m : sm_S) (hp : 0 ≤ x1.toInt ∧ x1.toInt ≤ 99) (hI : zI m) : Sf (fun r => (((-2 : Int) ≤ r.1.toInt) ∧ (r.1.toInt ≤ 969)) ∧ zI r.2 ∧ Fr wX12_meetsBy m r.2) (fX12_meetsBy x1 m) := by
  have hfu := fuE
  unfold fX12_meetsBy
  have kc1 := L0
  refine s_bd (zX12_cornerOf (0 : Int32) (0 : Int32) (0 : Int32) m (show 0 ≤ (0 : Int32).toInt ∧ (0 : Int32).toInt ≤ 1 ∧ 0 ≤ (0 : Int32).toInt ∧ (0 : Int32).toInt ≤ 99 ∧ 0 ≤ (0 : Int32).toInt ∧ (0 : Int32).toInt ≤ 969 by omega) hI) (fun r2 kr2 => ?_)
  obtain ⟨kp3, ki4, kf5⟩ := kr2
  replace kp3 : ((-1 : Int) ≤ r2.1.toInt) ∧ (r2.1.toInt ≤ 9) := kp3
  have kc6 := L1
  refine s_bd (zX12_cornerOf (1 : Int32) x1 (0 : Int32) r2.2 (show 0 ≤ (1 : Int32).toInt ∧ (1 : Int32).toInt ≤ 1 ∧ 0 ≤ x1.toInt ∧ x1.toInt ≤ 99 ∧ 0 ≤ (0 : Int32).toInt ∧ (0 : Int32).toInt ≤ 969 by omega) ki4) (fun r4 kr7 => ?_)
  obtain ⟨kp8, ki9, kf10⟩ := kr7
  replace kp8 : ((-1 : Int) ≤ r4.1.toInt) ∧ (r4.1.toInt ≤ 9) := kp8
  have kc11 : 0 ≤ (r2.2.1 72 39).toInt ∧ (r2.2.1 72 39).toInt ≤ 969 := ki4.1 72 39
  have kc12 : 0 ≤ (r4.2.1 72 39).toInt ∧ (r4.2.1 72 39).toInt ≤ 969 := ki9.1 72 39
  have kc13 : (((r2.2.1 72 39)).toInt < ((r4.2.1 72 39)).toInt ∧ (if (r2.2.1 72 39) < (r4.2.1 72 39) then (r4.2.1 72 39) else (r2.2.1 72 39)).toInt = ((r4.2.1 72 39)).toInt) ∨ (((r4.2.1 72 39)).toInt ≤ ((r2.2.1 72 39)).toInt ∧ (if (r2.2.1 72 39) < (r4.2.1 72 39) then (r4.2.1 72 39) else (r2.2.1 72 39)).toInt = ((r2.2.1 72 39)).toInt) := a_ilt
  have kf14 : Fr wX12_meetsBy m r2.2 := Fr.trans Fr.refl kf5 rfl
  have kf15 : Fr wX12_meetsBy m r4.2 := Fr.trans kf14 kf10 rfl
  exact zX12_meetsBy_32 m sm_fu x1 (if (r2.2.1 72 39) < (r4.2.1 72 39) then (r4.2.1 72 39) else (r2.2.1 72 39)) (0 : Int32) r4.2 (show 0 ≤ x1.toInt ∧ x1.toInt ≤ 99 ∧ 0 ≤ (if (r2.2.1 72 39) < (r4.2.1 72 39) then (r4.2.1 72 39) else (r2.2.1 72 39)).toInt ∧ (if (r2.2.1 72 39) < (r4.2.1 72 39) then (r4.2.1 72 39) else (r2.2.1 72 39)).toInt ≤ 969 ∧ 0 ≤ (0 : Int32).toInt ∧ (0 : Int32).toInt ≤ 1023 ∧ 1023 - (0 : Int32).toInt < (sm_fu : Int) by omega) ki9 kf15
theorem zX12_meets (x1 : Int32) (m : sm_S) (hI : zI m) : Sf (fun r => (((-3 : Int) ≤ r.1.toInt) ∧ (r.1.toInt ≤ 969)) ∧ zI r.2 ∧ Fr wX12_meets m r.2) (fX12_meets x1 m) := by
  have hfu := fuE
  unfold fX12_meets
  have kc1 : (x1).toInt64.toInt = (x1).toInt := Int32.toInt_toInt64 _
  have kc2 := LL0
  have kc3 := LL99
  have kc4 := L0
  have ki5 : zI (sm_w1 m 72 0 (0 : Int32)) := zI.w hI rfl (show 0 ≤ ((0 : Int32)).toInt ∧ ((0 : Int32)).toInt ≤ 1 by omega)
  refine s_bd (zX12_in (x1).toInt64 (0 : Int64) (99 : Int64) (sm_w1 m 72 0 (0 : Int32)) (show (-1 : Int) ≤ (0 : Int64).toInt ∧ (0 : Int64).toInt ≤ 48 ∧ (-1 : Int) ≤ (99 : Int64).toInt ∧ (99 : Int64).toInt ≤ 9999 by omega) ki5) (fun r2 kr6 => ?_)
  replace kr6 : (0 ≤ r2.toInt) ∧ (r2.toInt ≤ 1) ∧ ((r2.toInt = 0 ∧ ((x1).toInt64.toInt < (0 : Int64).toInt ∨ (99 : Int64).toInt < (x1).toInt64.toInt)) ∨ (r2.toInt = 1 ∧ (0 : Int64).toInt ≤ (x1).toInt64.toInt ∧ (x1).toInt64.toInt ≤ (99 : Int64).toInt)) := kr6
  refine s_eq (fun kh7 => ?_) (fun kh7 => ?_)
  · have kc8 := Ln1
    have kf9 : Fr wX12_meets m (sm_w1 m 72 0 (0 : Int32)) := Fr.w Fr.refl rfl
    exact s_ret ⟨(show ((-3 : Int) ≤ (-1 : Int32).toInt) ∧ ((-1 : Int32).toInt ≤ 969) by omega), ki5, kf9⟩
  · have kc10 : (-1 : Int) ≤ (m.1 89 0).toInt ∧ (m.1 89 0).toInt ≤ 9 := hI.1 89 0
    refine s_lt (fun kh11 => ?_) (fun kh11 => ?_)
    · have kc12 := Ln3
      have kf13 : Fr wX12_meets m (sm_w1 m 72 0 (0 : Int32)) := Fr.w Fr.refl rfl
      exact s_ret ⟨(show ((-3 : Int) ≤ (-3 : Int32).toInt) ∧ ((-3 : Int32).toInt ≤ 969) by omega), ki5, kf13⟩
    · have kc14 : (-1 : Int) ≤ (m.1 89 1).toInt ∧ (m.1 89 1).toInt ≤ 9 := hI.1 89 1
      refine s_le (fun kh15 => ?_) (fun kh15 => ?_)
      · refine s_bd (zX12_meetsBy x1 (sm_w1 m 72 0 (0 : Int32)) (show 0 ≤ x1.toInt ∧ x1.toInt ≤ 99 by omega) ki5) (fun r4 kr16 => ?_)
        obtain ⟨kp17, ki18, kf19⟩ := kr16
        replace kp17 : ((-2 : Int) ≤ r4.1.toInt) ∧ (r4.1.toInt ≤ 969) := kp17
        refine s_lt (fun kh20 => ?_) (fun kh20 => ?_)
        · have kf21 : Fr wX12_meets m (sm_w1 m 72 0 (0 : Int32)) := Fr.w Fr.refl rfl
          have kf22 : Fr wX12_meets m r4.2 := Fr.trans kf21 kf19 rfl
          exact s_ret ⟨(show ((-3 : Int) ≤ r4.1.toInt) ∧ (r4.1.toInt ≤ 969) by omega), ki18, kf22⟩
        · have ki23 : zI (sm_w1 r4.2 72 1 (0 : Int32)) := zI.w ki18 rfl (show 0 ≤ ((0 : Int32)).toInt ∧ ((0 : Int32)).toInt ≤ 24 by omega)
          refine s_bd (zX12_cornerOf (0 : Int32) (0 : Int32) (r4.1) (sm_w1 r4.2 72 1 (0 : Int32)) (show 0 ≤ (0 : Int32).toInt ∧ (0 : Int32).toInt ≤ 1 ∧ 0 ≤ (0 : Int32).toInt ∧ (0 : Int32).toInt ≤ 99 ∧ 0 ≤ (r4.1).toInt ∧ (r4.1).toInt ≤ 969 by omega) ki23) (fun r6 kr24 => ?_)
          obtain ⟨kp25, ki26, kf27⟩ := kr24
          replace kp25 : ((-1 : Int) ≤ r6.1.toInt) ∧ (r6.1.toInt ≤ 9) := kp25
          have kc28 : 0 ≤ (r6.2.1 72 1).toInt ∧ (r6.2.1 72 1).toInt ≤ 24 := ki26.1 72 1
          have kc29 : (r6.2.1 72 1).toInt = ((sm_w1 r4.2 72 1 (0 : Int32)).1 72 1).toInt := congrArg Int32.toInt (kf27 72 1 rfl)
          have kc30 : 0 ≤ ((sm_w1 r4.2 72 1 (0 : Int32)).1 72 1).toInt ∧ ((sm_w1 r4.2 72 1 (0 : Int32)).1 72 1).toInt ≤ 24 := ki23.1 72 1
          have kc31 : ((sm_w1 r4.2 72 1 (0 : Int32)).1 72 1).toInt = ((0 : Int32)).toInt := rfl
          refine s_bd (zX12_enters (r6.1) r6.2 (show (r6.2.1 72 1).toInt ≤ 23 by omega) ki26) (fun m8 kr32 => ?_)
          obtain ⟨kp33, ki34, kf35⟩ := kr32
          replace kp33 : ((m8.1 72 1).toInt = (r6.2.1 72 1).toInt + 1) := kp33
          have kc36 : 0 ≤ (m8.1 72 1).toInt ∧ (m8.1 72 1).toInt ≤ 24 := ki34.1 72 1
          have kf37 : Fr wX12_meets m (sm_w1 m 72 0 (0 : Int32)) := Fr.w Fr.refl rfl
          have kf38 : Fr wX12_meets m r4.2 := Fr.trans kf37 kf19 rfl
          have kf39 : Fr wX12_meets m (sm_w1 r4.2 72 1 (0 : Int32)) := Fr.w kf38 rfl
          have kf40 : Fr wX12_meets m r6.2 := Fr.trans kf39 kf27 rfl
          have kf41 : Fr wX12_meets m m8 := Fr.trans kf40 kf35 rfl
          exact s_ret ⟨(show ((-3 : Int) ≤ r4.1.toInt) ∧ (r4.1.toInt ≤ 969) by omega), ki34, kf41⟩
      · have kc42 := Ln3
        have kf43 : Fr wX12_meets m (sm_w1 m 72 0 (0 : Int32)) := Fr.w Fr.refl rfl
        exact s_ret ⟨(show ((-3 : Int) ≤ (-3 : Int32).toInt) ∧ ((-3 : Int32).toInt ≤ 969) by omega), ki5, kf43⟩
theorem zX12_apart_28 (m0 : sm_S) : ∀ (n : Nat) (v1 : Int32) (m : sm_S), (0 ≤ v1.toInt ∧ v1.toInt ≤ 100 ∧ 100 - v1.toInt < (n : Int)) → zI m → Fr wX12_apart m0 m → Sf (fun r => (((-3 : Int) ≤ r.1.toInt) ∧ (r.1.toInt ≤ 99)) ∧ zI r.2 ∧ Fr wX12_apart m0 r.2) (fX12_apart_28 n v1 m) := by
  intro n
  induction n with
  | zero =>
    intro v1 m hp hI hF
    exfalso
    omega
  | succ n ih =>
    intro v1 m hp hI hF
    have hnn : ((n + 1 : Nat) : Int) = (n : Int) + 1 := by omega
    have hfu := fuE
    unfold fX12_apart_28
    have kc1 := L99
    refine s_lt (fun kh2 => ?_) (fun kh2 => ?_)
    · have kc3 := Ln2
      exact s_ret ⟨(show ((-3 : Int) ≤ (-2 : Int32).toInt) ∧ ((-2 : Int32).toInt ≤ 99) by omega), hI, hF⟩
    · refine s_bd (zX12_meetsBy v1 m (show 0 ≤ v1.toInt ∧ v1.toInt ≤ 99 by omega) hI) (fun r2 kr4 => ?_)
      obtain ⟨kp5, ki6, kf7⟩ := kr4
      replace kp5 : ((-2 : Int) ≤ r2.1.toInt) ∧ (r2.1.toInt ≤ 969) := kp5
      have kc8 := L0
      refine s_le (fun kh9 => ?_) (fun kh9 => ?_)
      · have kc10 : (v1 + (1 : Int32)).toInt = (v1).toInt + 1 := a_addl L1 (by omega) (by omega)
        have kf11 : Fr wX12_apart m0 r2.2 := Fr.trans hF kf7 rfl
        exact ih (v1 + (1 : Int32)) r2.2 (show 0 ≤ (v1 + (1 : Int32)).toInt ∧ (v1 + (1 : Int32)).toInt ≤ 100 ∧ 100 - (v1 + (1 : Int32)).toInt < (n : Int) by omega) ki6 kf11
      · have kf12 : Fr wX12_apart m0 r2.2 := Fr.trans hF kf7 rfl
        exact s_ret ⟨(show ((-3 : Int) ≤ v1.toInt) ∧ (v1.toInt ≤ 99) by omega), ki6, kf12⟩
theorem zX12_apart (m : sm_S) (hI : zI m) : Sf (fun r => (((-3 : Int) ≤ r.1.toInt) ∧ (r.1.toInt ≤ 99)) ∧ zI r.2 ∧ Fr wX12_apart m r.2) (fX12_apart m) := by
  have hfu := fuE
  unfold fX12_apart
  have kc1 : (-1 : Int) ≤ (m.1 89 0).toInt ∧ (m.1 89 0).toInt ≤ 9 := hI.1 89 0
  have kc2 := L0
  refine s_lt (fun kh3 => ?_) (fun kh3 => ?_)
  · have kc4 := Ln3
    have ki5 : zI (sm_w1 m 72 0 (0 : Int32)) := zI.w hI rfl (show 0 ≤ ((0 : Int32)).toInt ∧ ((0 : Int32)).toInt ≤ 1 by omega)
    have kf6 : Fr wX12_apart m (sm_w1 m 72 0 (0 : Int32)) := Fr.w Fr.refl rfl
    exact s_ret ⟨(show ((-3 : Int) ≤ (-3 : Int32).toInt) ∧ ((-3 : Int32).toInt ≤ 99) by omega), ki5, kf6⟩
  · have kc7 : (-1 : Int) ≤ (m.1 89 1).toInt ∧ (m.1 89 1).toInt ≤ 9 := hI.1 89 1
    refine s_le (fun kh8 => ?_) (fun kh8 => ?_)
    · have ki9 : zI (sm_w1 m 72 0 (0 : Int32)) := zI.w hI rfl (show 0 ≤ ((0 : Int32)).toInt ∧ ((0 : Int32)).toInt ≤ 1 by omega)
      have kf10 : Fr wX12_apart m (sm_w1 m 72 0 (0 : Int32)) := Fr.w Fr.refl rfl
      exact zX12_apart_28 m sm_fu (0 : Int32) (sm_w1 m 72 0 (0 : Int32)) (show 0 ≤ (0 : Int32).toInt ∧ (0 : Int32).toInt ≤ 100 ∧ 100 - (0 : Int32).toInt < (sm_fu : Int) by omega) ki9 kf10
    · have kc11 := Ln3
      have ki12 : zI (sm_w1 m 72 0 (0 : Int32)) := zI.w hI rfl (show 0 ≤ ((0 : Int32)).toInt ∧ ((0 : Int32)).toInt ≤ 1 by omega)
      have kf13 : Fr wX12_apart m (sm_w1 m 72 0 (0 : Int32)) := Fr.w Fr.refl rfl
      exact s_ret ⟨(show ((-3 : Int) ≤ (-3 : Int32).toInt) ∧ ((-3 : Int32).toInt ≤ 99) by omega), ki12, kf13⟩
theorem zX12_sleeps (m : sm_S) (hI : zI m) : Sf (fun r => ((0 ≤ r.1.toInt) ∧ (r.1.toInt ≤ 1)) ∧ zI r.2 ∧ Fr wX12_sleeps m r.2) (fX12_sleeps m) := by
  have hfu := fuE
  unfold fX12_sleeps
  have kc1 : 0 ≤ (m.1 72 18).toInt ∧ (m.1 72 18).toInt ≤ 9999 := hI.1 72 18
  refine s_bd (zX12_dayOf (m.1 72 18) m (show 0 ≤ (m.1 72 18).toInt ∧ (m.1 72 18).toInt ≤ 9999 by omega) hI) (fun r2 kr2 => ?_)
  replace kr2 : (0 ≤ r2.toInt) ∧ (r2.toInt ≤ 166) := kr2
  have kc3 := L60
  have kc4 : (r2 + (1 : Int32)).toInt = (r2).toInt + 1 := a_addl L1 (by omega) (by omega)
  have kc5 : ((60 : Int32) * (r2 + (1 : Int32))).toInt = 60 * ((r2 + (1 : Int32))).toInt := a_mul L60 rfl (by omega) (by omega)
  have kc6 : 0 ≤ (m.1 72 16).toInt ∧ (m.1 72 16).toInt ≤ 9999 := hI.1 72 16
  refine s_le (fun kh7 => ?_) (fun kh7 => ?_)
  · have kc8 := L1
    have ki9 : zI (sm_w1 m 72 18 ((60 : Int32) * (r2 + (1 : Int32)))) := zI.w hI rfl (show 0 ≤ (((60 : Int32) * (r2 + (1 : Int32)))).toInt ∧ (((60 : Int32) * (r2 + (1 : Int32)))).toInt ≤ 9999 by omega)
    have kf10 : Fr wX12_sleeps m (sm_w1 m 72 18 ((60 : Int32) * (r2 + (1 : Int32)))) := Fr.w Fr.refl rfl
    exact s_ret ⟨(show (0 ≤ (1 : Int32).toInt) ∧ ((1 : Int32).toInt ≤ 1) by omega), ki9, kf10⟩
  · have kc11 := L0
    have kc12 : (((m.1 72 18)).toInt < ((m.1 72 16)).toInt ∧ (if (m.1 72 18) < (m.1 72 16) then (m.1 72 16) else (m.1 72 18)).toInt = ((m.1 72 16)).toInt) ∨ (((m.1 72 16)).toInt ≤ ((m.1 72 18)).toInt ∧ (if (m.1 72 18) < (m.1 72 16) then (m.1 72 16) else (m.1 72 18)).toInt = ((m.1 72 18)).toInt) := a_ilt
    have ki13 : zI (sm_w1 m 72 18 (if (m.1 72 18) < (m.1 72 16) then (m.1 72 16) else (m.1 72 18))) := zI.w hI rfl (show 0 ≤ ((if (m.1 72 18) < (m.1 72 16) then (m.1 72 16) else (m.1 72 18))).toInt ∧ ((if (m.1 72 18) < (m.1 72 16) then (m.1 72 16) else (m.1 72 18))).toInt ≤ 9999 by omega)
    have kf14 : Fr wX12_sleeps m (sm_w1 m 72 18 (if (m.1 72 18) < (m.1 72 16) then (m.1 72 16) else (m.1 72 18))) := Fr.w Fr.refl rfl
    exact s_ret ⟨(show (0 ≤ (0 : Int32).toInt) ∧ ((0 : Int32).toInt ≤ 1) by omega), ki13, kf14⟩
theorem zX12_season (x1 : Int32) (m : sm_S) (hI : zI m) : Sf (fun r => (True) ∧ zI r.2 ∧ Fr wX12_season m r.2) (fX12_season x1 m) := by
  sorry
theorem zX12_allHedges (m : sm_S) (hI : zI m) : Sf (fun r => (0 ≤ r.toInt) ∧ (r.toInt ≤ 16383)) (fX12_allHedges m) := by
  have hfu := fuE
  unfold fX12_allHedges
  have kc1 := L1
  have kc2 : 0 ≤ (m.1 72 6).toInt ∧ (m.1 72 6).toInt ≤ 14 := hI.1 72 6
  have kc3 : 0 ≤ (m.1 72 25).toInt ∧ (m.1 72 25).toInt ≤ 14 := hI.1 72 25
  have kc4 := zI.le hI
  have kc5 := L31
  have kc6 : 0 ≤ ((m.1 72 6) &&& (31 : Int32)).toInt ∧ ((m.1 72 6) &&& (31 : Int32)).toInt ≤ ((31 : Int32)).toInt := a_andr (by omega)
  have kc7 : 0 ≤ ((m.1 72 6) &&& (31 : Int32)).toInt ∧ ((m.1 72 6) &&& (31 : Int32)).toInt ≤ ((m.1 72 6)).toInt := a_andl (by omega)
  have kc8 : 1 ≤ ((1 : Int32) <<< ((m.1 72 6) &&& (31 : Int32))).toInt ∧ ((1 : Int32) <<< ((m.1 72 6) &&& (31 : Int32))).toInt ≤ 16384 := a_shl 14 (by decide) (by decide) (by omega) (by omega)
  have kc9 : (((1 : Int32) <<< ((m.1 72 6) &&& (31 : Int32))) - (1 : Int32)).toInt = (((1 : Int32) <<< ((m.1 72 6) &&& (31 : Int32)))).toInt - 1 := a_subl L1 (by omega) (by omega)
  exact s_ret (show (0 ≤ (((1 : Int32) <<< ((m.1 72 6) &&& (31 : Int32))) - (1 : Int32)).toInt) ∧ ((((1 : Int32) <<< ((m.1 72 6) &&& (31 : Int32))) - (1 : Int32)).toInt ≤ 16383) by omega)
theorem zX12_oddOf_4 : ∀ (n : Nat) (v1 : Int32) (v2 : Int32) (v3 : Int32) (m : sm_S), (0 ≤ v1.toInt ∧ v1.toInt ≤ 16383 ∧ 0 ≤ v2.toInt ∧ v2.toInt ≤ 1023 ∧ 0 ≤ v3.toInt ∧ v3.toInt ≤ 14 ∧ 14 - v3.toInt < (n : Int)) → zI m → Sf (fun r => (0 ≤ r.toInt) ∧ (r.toInt ≤ 1023)) (fX12_oddOf_4 n v1 v2 v3 m) := by
  intro n
  induction n with
  | zero =>
    intro v1 v2 v3 m hp hI
    exfalso
    omega
  | succ n ih =>
    intro v1 v2 v3 m hp hI
    have hnn : ((n + 1 : Nat) : Int) = (n : Int) + 1 := by omega
    have hfu := fuE
    unfold fX12_oddOf_4
    have kc1 : 0 ≤ (m.1 72 6).toInt ∧ (m.1 72 6).toInt ≤ 14 := hI.1 72 6
    have kc2 : 0 ≤ (m.1 72 25).toInt ∧ (m.1 72 25).toInt ≤ 14 := hI.1 72 25
    have kc3 := zI.le hI
    refine s_le (fun kh4 => ?_) (fun kh4 => ?_)
    · exact s_ret (show (0 ≤ v2.toInt) ∧ (v2.toInt ≤ 1023) by omega)
    · refine s_bd (zX12_has v1 v3 m (show 0 ≤ v1.toInt ∧ v1.toInt ≤ 16383 ∧ 0 ≤ v3.toInt ∧ v3.toInt ≤ 13 by omega) hI) (fun r2 kr5 => ?_)
      replace kr5 : (0 ≤ r2.toInt) ∧ (r2.toInt ≤ 1) := kr5
      have kc6 := L0
      refine s_eq (fun kh7 => ?_) (fun kh7 => ?_)
      · have kc8 : 0 ≤ (v2 ^^^ (0 : Int32)).toInt ∧ (v2 ^^^ (0 : Int32)).toInt < 1024 := a_xor 10 (by decide) (by decide) (by omega) (by omega) (by omega) (by omega)
        have kc9 : (v3 + (1 : Int32)).toInt = (v3).toInt + 1 := a_addl L1 (by omega) (by omega)
        exact ih v1 (v2 ^^^ (0 : Int32)) (v3 + (1 : Int32)) m (show 0 ≤ v1.toInt ∧ v1.toInt ≤ 16383 ∧ 0 ≤ (v2 ^^^ (0 : Int32)).toInt ∧ (v2 ^^^ (0 : Int32)).toInt ≤ 1023 ∧ 0 ≤ (v3 + (1 : Int32)).toInt ∧ (v3 + (1 : Int32)).toInt ≤ 14 ∧ 14 - (v3 + (1 : Int32)).toInt < (n : Int) by omega) hI
      · have kx10 : 0 ≤ (v3).toInt ∧ (v3).toInt < (14 : Int) := by omega
        refine s_ix kx10 ?_
        refine s_ix kx10 ?_
        have kc11 := L1
        have kc12 : (-1 : Int) ≤ (m.1 76 (v3).toNatClampNeg).toInt ∧ (m.1 76 (v3).toNatClampNeg).toInt ≤ 9 := hI.1 76 (v3).toNatClampNeg
        have kc13 : 0 ≤ (m.1 76 (v3).toNatClampNeg).toInt := zI.pf76 hI v3 (by omega) (by omega)
        have kc14 := L31
        have kc15 : 0 ≤ ((m.1 76 (v3).toNatClampNeg) &&& (31 : Int32)).toInt ∧ ((m.1 76 (v3).toNatClampNeg) &&& (31 : Int32)).toInt ≤ ((31 : Int32)).toInt := a_andr (by omega)
        have kc16 : 0 ≤ ((m.1 76 (v3).toNatClampNeg) &&& (31 : Int32)).toInt ∧ ((m.1 76 (v3).toNatClampNeg) &&& (31 : Int32)).toInt ≤ ((m.1 76 (v3).toNatClampNeg)).toInt := a_andl (by omega)
        have kc17 : 1 ≤ ((1 : Int32) <<< ((m.1 76 (v3).toNatClampNeg) &&& (31 : Int32))).toInt ∧ ((1 : Int32) <<< ((m.1 76 (v3).toNatClampNeg) &&& (31 : Int32))).toInt ≤ 512 := a_shl 9 (by decide) (by decide) (by omega) (by omega)
        have kc18 : (-1 : Int) ≤ (m.1 77 (v3).toNatClampNeg).toInt ∧ (m.1 77 (v3).toNatClampNeg).toInt ≤ 9 := hI.1 77 (v3).toNatClampNeg
        have kc19 : 0 ≤ (m.1 77 (v3).toNatClampNeg).toInt := zI.pf77 hI v3 (by omega) (by omega)
        have kc20 : 0 ≤ ((m.1 77 (v3).toNatClampNeg) &&& (31 : Int32)).toInt ∧ ((m.1 77 (v3).toNatClampNeg) &&& (31 : Int32)).toInt ≤ ((31 : Int32)).toInt := a_andr (by omega)
        have kc21 : 0 ≤ ((m.1 77 (v3).toNatClampNeg) &&& (31 : Int32)).toInt ∧ ((m.1 77 (v3).toNatClampNeg) &&& (31 : Int32)).toInt ≤ ((m.1 77 (v3).toNatClampNeg)).toInt := a_andl (by omega)
        have kc22 : 1 ≤ ((1 : Int32) <<< ((m.1 77 (v3).toNatClampNeg) &&& (31 : Int32))).toInt ∧ ((1 : Int32) <<< ((m.1 77 (v3).toNatClampNeg) &&& (31 : Int32))).toInt ≤ 512 := a_shl 9 (by decide) (by decide) (by omega) (by omega)
        have kc23 : 0 ≤ (((1 : Int32) <<< ((m.1 76 (v3).toNatClampNeg) &&& (31 : Int32))) ^^^ ((1 : Int32) <<< ((m.1 77 (v3).toNatClampNeg) &&& (31 : Int32)))).toInt ∧ (((1 : Int32) <<< ((m.1 76 (v3).toNatClampNeg) &&& (31 : Int32))) ^^^ ((1 : Int32) <<< ((m.1 77 (v3).toNatClampNeg) &&& (31 : Int32)))).toInt < 1024 := a_xor 10 (by decide) (by decide) (by omega) (by omega) (by omega) (by omega)
        have kc24 : 0 ≤ (v2 ^^^ (((1 : Int32) <<< ((m.1 76 (v3).toNatClampNeg) &&& (31 : Int32))) ^^^ ((1 : Int32) <<< ((m.1 77 (v3).toNatClampNeg) &&& (31 : Int32))))).toInt ∧ (v2 ^^^ (((1 : Int32) <<< ((m.1 76 (v3).toNatClampNeg) &&& (31 : Int32))) ^^^ ((1 : Int32) <<< ((m.1 77 (v3).toNatClampNeg) &&& (31 : Int32))))).toInt < 1024 := a_xor 10 (by decide) (by decide) (by omega) (by omega) (by omega) (by omega)
        have kc25 : (v3 + (1 : Int32)).toInt = (v3).toInt + 1 := a_addl L1 (by omega) (by omega)
        exact ih v1 (v2 ^^^ (((1 : Int32) <<< ((m.1 76 (v3).toNatClampNeg) &&& (31 : Int32))) ^^^ ((1 : Int32) <<< ((m.1 77 (v3).toNatClampNeg) &&& (31 : Int32))))) (v3 + (1 : Int32)) m (show 0 ≤ v1.toInt ∧ v1.toInt ≤ 16383 ∧ 0 ≤ (v2 ^^^ (((1 : Int32) <<< ((m.1 76 (v3).toNatClampNeg) &&& (31 : Int32))) ^^^ ((1 : Int32) <<< ((m.1 77 (v3).toNatClampNeg) &&& (31 : Int32))))).toInt ∧ (v2 ^^^ (((1 : Int32) <<< ((m.1 76 (v3).toNatClampNeg) &&& (31 : Int32))) ^^^ ((1 : Int32) <<< ((m.1 77 (v3).toNatClampNeg) &&& (31 : Int32))))).toInt ≤ 1023 ∧ 0 ≤ (v3 + (1 : Int32)).toInt ∧ (v3 + (1 : Int32)).toInt ≤ 14 ∧ 14 - (v3 + (1 : Int32)).toInt < (n : Int) by omega) hI
theorem zX12_oddOf (x1 : Int32) (m : sm_S) (hp : 0 ≤ x1.toInt ∧ x1.toInt ≤ 16383) (hI : zI m) : Sf (fun r => (0 ≤ r.toInt) ∧ (r.toInt ≤ 1023)) (fX12_oddOf x1 m) := by
  have hfu := fuE
  unfold fX12_oddOf
  have kc1 := L0
  exact zX12_oddOf_4 sm_fu x1 (0 : Int32) (0 : Int32) m (show 0 ≤ x1.toInt ∧ x1.toInt ≤ 16383 ∧ 0 ≤ (0 : Int32).toInt ∧ (0 : Int32).toInt ≤ 1023 ∧ 0 ≤ (0 : Int32).toInt ∧ (0 : Int32).toInt ≤ 14 ∧ 14 - (0 : Int32).toInt < (sm_fu : Int) by omega) hI
theorem zX12_odd (m : sm_S) (hI : zI m) : Sf (fun r => ((0 ≤ r.1.toInt) ∧ (r.1.toInt ≤ 63)) ∧ zI r.2 ∧ Fr wX12_odd m r.2) (fX12_odd m) := by
  have hfu := fuE
  unfold fX12_odd
  have kc1 := L0
  have ki2 : zI (sm_w1 m 72 0 (0 : Int32)) := zI.w hI rfl (show 0 ≤ ((0 : Int32)).toInt ∧ ((0 : Int32)).toInt ≤ 1 by omega)
  refine s_bd (zX12_allHedges (sm_w1 m 72 0 (0 : Int32)) ki2) (fun r2 kr3 => ?_)
  replace kr3 : (0 ≤ r2.toInt) ∧ (r2.toInt ≤ 16383) := kr3
  refine s_bd (zX12_oddOf r2 (sm_w1 m 72 0 (0 : Int32)) (show 0 ≤ r2.toInt ∧ r2.toInt ≤ 16383 by omega) ki2) (fun r4 kr4 => ?_)
  replace kr4 : (0 ≤ r4.toInt) ∧ (r4.toInt ≤ 1023) := kr4
  have ki5 : zI (sm_w1 (sm_w1 m 72 0 (0 : Int32)) 72 1 (0 : Int32)) := zI.w ki2 rfl (show 0 ≤ ((0 : Int32)).toInt ∧ ((0 : Int32)).toInt ≤ 24 by omega)
  have kc6 : 0 ≤ ((sm_w1 (sm_w1 m 72 0 (0 : Int32)) 72 1 (0 : Int32)).1 72 1).toInt ∧ ((sm_w1 (sm_w1 m 72 0 (0 : Int32)) 72 1 (0 : Int32)).1 72 1).toInt ≤ 24 := ki5.1 72 1
  have kc7 : ((sm_w1 (sm_w1 m 72 0 (0 : Int32)) 72 1 (0 : Int32)).1 72 1).toInt = ((0 : Int32)).toInt := rfl
  refine s_bd (zX12_enters r4 (sm_w1 (sm_w1 m 72 0 (0 : Int32)) 72 1 (0 : Int32)) (show ((sm_w1 (sm_w1 m 72 0 (0 : Int32)) 72 1 (0 : Int32)).1 72 1).toInt ≤ 23 by omega) ki5) (fun m6 kr8 => ?_)
  obtain ⟨kp9, ki10, kf11⟩ := kr8
  replace kp9 : ((m6.1 72 1).toInt = ((sm_w1 (sm_w1 m 72 0 (0 : Int32)) 72 1 (0 : Int32)).1 72 1).toInt + 1) := kp9
  have kc12 : 0 ≤ (m6.1 72 1).toInt ∧ (m6.1 72 1).toInt ≤ 24 := ki10.1 72 1
  refine s_bd (zJ6_bitCount_0f7a4 r4 m6 (show 0 ≤ r4.toInt ∧ r4.toInt ≤ 16383 by omega) ki10) (fun r8 kr13 => ?_)
  replace kr13 : (0 ≤ r8.toInt) ∧ (r8.toInt ≤ 63) := kr13
  have kf14 : Fr wX12_odd m (sm_w1 m 72 0 (0 : Int32)) := Fr.w Fr.refl rfl
  have kf15 : Fr wX12_odd m (sm_w1 (sm_w1 m 72 0 (0 : Int32)) 72 1 (0 : Int32)) := Fr.w kf14 rfl
  have kf16 : Fr wX12_odd m m6 := Fr.trans kf15 kf11 rfl
  exact s_ret ⟨(show (0 ≤ r8.toInt) ∧ (r8.toInt ≤ 63) by omega), ki10, kf16⟩
