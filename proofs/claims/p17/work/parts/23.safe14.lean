theorem zX12_tour (x1 : Int32) (m : sm_S) (hI : zI m) : Sf (fun r => (((r.2.1 72 21).toInt = 0)) ∧ zI r.2 ∧ Fr wX12_tour m r.2) (fX12_tour x1 m) := by
  have hfu := fuE
  unfold fX12_tour
  have kc1 := L30
  have kc2 := L0
  have ki3 : zI (sm_w1 m 72 0 (0 : Int32)) := zI.w hI rfl (show 0 ≤ ((0 : Int32)).toInt ∧ ((0 : Int32)).toInt ≤ 1 by omega)
  refine s_bd (zX12_begins (30 : Int32) (sm_w1 m 72 0 (0 : Int32)) (show 30 ≤ (30 : Int32).toInt ∧ (30 : Int32).toInt ≤ 76 by omega) ki3) (fun r2 kr4 => ?_)
  obtain ⟨kp5, ki6, kf7⟩ := kr4
  replace kp5 : (0 ≤ r2.1.toInt) ∧ (r2.1.toInt ≤ 80) ∧ ((r2.2.1 72 23).toInt ≤ (30 : Int32).toInt) ∧ ((r2.2.1 72 22).toInt = 0) ∧ ((r2.2.1 72 21).toInt = 0) := kp5
  have kc8 : 0 ≤ (r2.2.1 72 23).toInt ∧ (r2.2.1 72 23).toInt ≤ 76 := ki6.1 72 23
  have kc9 : 0 ≤ (r2.2.1 72 22).toInt ∧ (r2.2.1 72 22).toInt ≤ 80 := ki6.1 72 22
  have kc10 : 0 ≤ (r2.2.1 72 21).toInt ∧ (r2.2.1 72 21).toInt ≤ 80 := ki6.1 72 21
  have kc11 : (x1).toInt64.toInt = (x1).toInt := Int32.toInt_toInt64 _
  have kc12 := LL0
  have kc13 := LL1
  refine s_bd (zX12_in (x1).toInt64 (0 : Int64) (1 : Int64) r2.2 (show (-1 : Int) ≤ (0 : Int64).toInt ∧ (0 : Int64).toInt ≤ 48 ∧ (-1 : Int) ≤ (1 : Int64).toInt ∧ (1 : Int64).toInt ≤ 9999 by omega) ki6) (fun r4 kr14 => ?_)
  replace kr14 : (0 ≤ r4.toInt) ∧ (r4.toInt ≤ 1) ∧ ((r4.toInt = 0 ∧ ((x1).toInt64.toInt < (0 : Int64).toInt ∨ (1 : Int64).toInt < (x1).toInt64.toInt)) ∨ (r4.toInt = 1 ∧ (0 : Int64).toInt ≤ (x1).toInt64.toInt ∧ (x1).toInt64.toInt ≤ (1 : Int64).toInt)) := kr14
  refine s_eq (fun kh15 => ?_) (fun kh15 => ?_)
  · have kc16 := Ln100
    have kf17 : Fr wX12_tour m (sm_w1 m 72 0 (0 : Int32)) := Fr.w Fr.refl rfl
    have kf18 : Fr wX12_tour m r2.2 := Fr.trans kf17 kf7 rfl
    exact s_ret ⟨(show ((r2.2.1 72 21).toInt = 0) by omega), ki6, kf18⟩
  · have kc19 := Ln1
    have kc20 : 0 ≤ (r2.2.1 72 3).toInt ∧ (r2.2.1 72 3).toInt ≤ 10 := ki6.1 72 3
    have kc21 : (r2.2.1 72 3).toInt = ((sm_w1 m 72 0 (0 : Int32)).1 72 3).toInt := congrArg Int32.toInt (kf7 72 3 rfl)
    have kc22 : 0 ≤ ((sm_w1 m 72 0 (0 : Int32)).1 72 3).toInt ∧ ((sm_w1 m 72 0 (0 : Int32)).1 72 3).toInt ≤ 10 := ki3.1 72 3
    have kc23 : ((sm_w1 m 72 0 (0 : Int32)).1 72 3).toInt = (m.1 72 3).toInt := rfl
    have kc24 : 0 ≤ (m.1 72 3).toInt ∧ (m.1 72 3).toInt ≤ 10 := hI.1 72 3
    have ki25 : zI (sm_w1 r2.2 72 24 (r2.2.1 72 3)) := zI.w ki6 rfl (show 0 ≤ ((r2.2.1 72 3)).toInt ∧ ((r2.2.1 72 3)).toInt ≤ 10 by omega)
    refine s_bd (zX12_cornerBut (-1 : Int32) (sm_w1 r2.2 72 24 (r2.2.1 72 3)) (show (-1 : Int) ≤ (-1 : Int32).toInt ∧ (-1 : Int32).toInt ≤ 9 by omega) ki25) (fun r6 kr26 => ?_)
    obtain ⟨kp27, ki28, kf29⟩ := kr26
    replace kp27 : ((-1 : Int) ≤ r6.1.toInt) ∧ (r6.1.toInt ≤ 9) ∧ ((r6.1.toInt < 0 ∧ (r6.2.1 72 22).toInt = ((sm_w1 r2.2 72 24 (r2.2.1 72 3)).1 72 22).toInt) ∨ (0 ≤ r6.1.toInt ∧ ((sm_w1 r2.2 72 24 (r2.2.1 72 3)).1 72 22).toInt < ((sm_w1 r2.2 72 24 (r2.2.1 72 3)).1 72 23).toInt ∧ (r6.2.1 72 22).toInt = ((sm_w1 r2.2 72 24 (r2.2.1 72 3)).1 72 22).toInt + 1)) := kp27
    have kc30 : 0 ≤ (r6.2.1 72 22).toInt ∧ (r6.2.1 72 22).toInt ≤ 80 := ki28.1 72 22
    have kc31 : 0 ≤ ((sm_w1 r2.2 72 24 (r2.2.1 72 3)).1 72 22).toInt ∧ ((sm_w1 r2.2 72 24 (r2.2.1 72 3)).1 72 22).toInt ≤ 80 := ki25.1 72 22
    have kc32 : ((sm_w1 r2.2 72 24 (r2.2.1 72 3)).1 72 22).toInt = (r2.2.1 72 22).toInt := rfl
    have kc33 : 0 ≤ ((sm_w1 r2.2 72 24 (r2.2.1 72 3)).1 72 23).toInt ∧ ((sm_w1 r2.2 72 24 (r2.2.1 72 3)).1 72 23).toInt ≤ 76 := ki25.1 72 23
    have kc34 : ((sm_w1 r2.2 72 24 (r2.2.1 72 3)).1 72 23).toInt = (r2.2.1 72 23).toInt := rfl
    refine s_lt (fun kh35 => ?_) (fun kh35 => ?_)
    · have kc36 : 0 ≤ (r6.2.1 72 23).toInt ∧ (r6.2.1 72 23).toInt ≤ 76 := ki28.1 72 23
      have kc37 : (r6.2.1 72 23).toInt = ((sm_w1 r2.2 72 24 (r2.2.1 72 3)).1 72 23).toInt := congrArg Int32.toInt (kf29 72 23 rfl)
      have kc38 : 0 ≤ (r6.2.1 72 6).toInt ∧ (r6.2.1 72 6).toInt ≤ 14 := ki28.1 72 6
      have kc39 : 0 ≤ (r6.2.1 72 25).toInt ∧ (r6.2.1 72 25).toInt ≤ 14 := ki28.1 72 25
      have kc40 := zI.le ki28
      have kc41 : (r6.2.1 72 25).toInt = ((sm_w1 r2.2 72 24 (r2.2.1 72 3)).1 72 25).toInt := congrArg Int32.toInt (kf29 72 25 rfl)
      have kc42 : 0 ≤ ((sm_w1 r2.2 72 24 (r2.2.1 72 3)).1 72 25).toInt ∧ ((sm_w1 r2.2 72 24 (r2.2.1 72 3)).1 72 25).toInt ≤ 14 := ki25.1 72 25
      have kc43 : 0 ≤ ((sm_w1 r2.2 72 24 (r2.2.1 72 3)).1 72 6).toInt ∧ ((sm_w1 r2.2 72 24 (r2.2.1 72 3)).1 72 6).toInt ≤ 14 := ki25.1 72 6
      have kc44 := zI.le ki25
      have kc45 : ((sm_w1 r2.2 72 24 (r2.2.1 72 3)).1 72 6).toInt = (r2.2.1 72 6).toInt := rfl
      have kc46 : 0 ≤ (r2.2.1 72 6).toInt ∧ (r2.2.1 72 6).toInt ≤ 14 := ki6.1 72 6
      have kc47 : 0 ≤ (r2.2.1 72 25).toInt ∧ (r2.2.1 72 25).toInt ≤ 14 := ki6.1 72 25
      have kc48 := zI.le ki6
      have kc49 : (r2.2.1 72 25).toInt = ((sm_w1 m 72 0 (0 : Int32)).1 72 25).toInt := congrArg Int32.toInt (kf7 72 25 rfl)
      have kc50 : 0 ≤ ((sm_w1 m 72 0 (0 : Int32)).1 72 25).toInt ∧ ((sm_w1 m 72 0 (0 : Int32)).1 72 25).toInt ≤ 14 := ki3.1 72 25
      have kc51 : 0 ≤ ((sm_w1 m 72 0 (0 : Int32)).1 72 6).toInt ∧ ((sm_w1 m 72 0 (0 : Int32)).1 72 6).toInt ≤ 14 := ki3.1 72 6
      have kc52 := zI.le ki3
      have kc53 : ((sm_w1 m 72 0 (0 : Int32)).1 72 6).toInt = (m.1 72 6).toInt := rfl
      have kc54 : 0 ≤ (m.1 72 6).toInt ∧ (m.1 72 6).toInt ≤ 14 := hI.1 72 6
      have kc55 : 0 ≤ (m.1 72 25).toInt ∧ (m.1 72 25).toInt ≤ 14 := hI.1 72 25
      have kc56 := zI.le hI
      have kc57 : ((sm_w1 m 72 0 (0 : Int32)).1 72 25).toInt = (m.1 72 25).toInt := rfl
      have kc58 : (r2.2.1 72 6).toInt = ((sm_w1 m 72 0 (0 : Int32)).1 72 6).toInt := congrArg Int32.toInt (kf7 72 6 rfl)
      have kc59 : ((sm_w1 r2.2 72 24 (r2.2.1 72 3)).1 72 25).toInt = (r2.2.1 72 25).toInt := rfl
      have kc60 : (r6.2.1 72 6).toInt = ((sm_w1 r2.2 72 24 (r2.2.1 72 3)).1 72 6).toInt := congrArg Int32.toInt (kf29 72 6 rfl)
      have kc61 : 0 ≤ (r6.2.1 72 21).toInt ∧ (r6.2.1 72 21).toInt ≤ 80 := ki28.1 72 21
      have kc62 : (r6.2.1 72 21).toInt = ((sm_w1 r2.2 72 24 (r2.2.1 72 3)).1 72 21).toInt := congrArg Int32.toInt (kf29 72 21 rfl)
      have kc63 : 0 ≤ ((sm_w1 r2.2 72 24 (r2.2.1 72 3)).1 72 21).toInt ∧ ((sm_w1 r2.2 72 24 (r2.2.1 72 3)).1 72 21).toInt ≤ 80 := ki25.1 72 21
      have kc64 : ((sm_w1 r2.2 72 24 (r2.2.1 72 3)).1 72 21).toInt = (r2.2.1 72 21).toInt := rfl
      have kf65 : Fr wX12_tour m (sm_w1 m 72 0 (0 : Int32)) := Fr.w Fr.refl rfl
      have kf66 : Fr wX12_tour m r2.2 := Fr.trans kf65 kf7 rfl
      have kf67 : Fr wX12_tour m (sm_w1 r2.2 72 24 (r2.2.1 72 3)) := Fr.w kf66 rfl
      have kf68 : Fr wX12_tour m r6.2 := Fr.trans kf67 kf29 rfl
      exact zX12_tour_62 m sm_fu x1 r2.1 r6.1 r6.1 (0 : Int32) (0 : Int32) (0 : Int32) (0 : Int32) r6.2 (show 0 ≤ x1.toInt ∧ x1.toInt ≤ 1 ∧ 0 ≤ (r2.1).toInt ∧ (r2.1).toInt ≤ 80 ∧ (-1 : Int) ≤ (r6.1).toInt ∧ (r6.1).toInt ≤ 9 ∧ (-1 : Int) ≤ (r6.1).toInt ∧ (r6.1).toInt ≤ 9 ∧ 0 ≤ (0 : Int32).toInt ∧ (0 : Int32).toInt ≤ 30 ∧ 0 ≤ (0 : Int32).toInt ∧ (0 : Int32).toInt ≤ 16383 ∧ 0 ≤ (0 : Int32).toInt ∧ (0 : Int32).toInt ≤ 1 ∧ 2 * (81 - (r6.2.1 72 22).toInt) + (0 : Int32).toInt < (sm_fu : Int) ∧ (r6.2.1 72 23).toInt ≤ 30 ∧ (0 : Int32).toInt ≤ (r6.2.1 72 22).toInt ∧ (1 ≤ (0 : Int32).toInt → 1 ≤ (r6.2.1 72 6).toInt) ∧ (r6.2.1 72 21).toInt = 0 by omega) ki28 kf68
    · have kc69 := L1
      have kc70 : 0 ≤ (r6.2.1 72 23).toInt ∧ (r6.2.1 72 23).toInt ≤ 76 := ki28.1 72 23
      have kc71 : (r6.2.1 72 23).toInt = ((sm_w1 r2.2 72 24 (r2.2.1 72 3)).1 72 23).toInt := congrArg Int32.toInt (kf29 72 23 rfl)
      have kc72 : 0 ≤ (r6.2.1 72 6).toInt ∧ (r6.2.1 72 6).toInt ≤ 14 := ki28.1 72 6
      have kc73 : 0 ≤ (r6.2.1 72 25).toInt ∧ (r6.2.1 72 25).toInt ≤ 14 := ki28.1 72 25
      have kc74 := zI.le ki28
      have kc75 : (r6.2.1 72 25).toInt = ((sm_w1 r2.2 72 24 (r2.2.1 72 3)).1 72 25).toInt := congrArg Int32.toInt (kf29 72 25 rfl)
      have kc76 : 0 ≤ ((sm_w1 r2.2 72 24 (r2.2.1 72 3)).1 72 25).toInt ∧ ((sm_w1 r2.2 72 24 (r2.2.1 72 3)).1 72 25).toInt ≤ 14 := ki25.1 72 25
      have kc77 : 0 ≤ ((sm_w1 r2.2 72 24 (r2.2.1 72 3)).1 72 6).toInt ∧ ((sm_w1 r2.2 72 24 (r2.2.1 72 3)).1 72 6).toInt ≤ 14 := ki25.1 72 6
      have kc78 := zI.le ki25
      have kc79 : ((sm_w1 r2.2 72 24 (r2.2.1 72 3)).1 72 6).toInt = (r2.2.1 72 6).toInt := rfl
      have kc80 : 0 ≤ (r2.2.1 72 6).toInt ∧ (r2.2.1 72 6).toInt ≤ 14 := ki6.1 72 6
      have kc81 : 0 ≤ (r2.2.1 72 25).toInt ∧ (r2.2.1 72 25).toInt ≤ 14 := ki6.1 72 25
      have kc82 := zI.le ki6
      have kc83 : (r2.2.1 72 25).toInt = ((sm_w1 m 72 0 (0 : Int32)).1 72 25).toInt := congrArg Int32.toInt (kf7 72 25 rfl)
      have kc84 : 0 ≤ ((sm_w1 m 72 0 (0 : Int32)).1 72 25).toInt ∧ ((sm_w1 m 72 0 (0 : Int32)).1 72 25).toInt ≤ 14 := ki3.1 72 25
      have kc85 : 0 ≤ ((sm_w1 m 72 0 (0 : Int32)).1 72 6).toInt ∧ ((sm_w1 m 72 0 (0 : Int32)).1 72 6).toInt ≤ 14 := ki3.1 72 6
      have kc86 := zI.le ki3
      have kc87 : ((sm_w1 m 72 0 (0 : Int32)).1 72 6).toInt = (m.1 72 6).toInt := rfl
      have kc88 : 0 ≤ (m.1 72 6).toInt ∧ (m.1 72 6).toInt ≤ 14 := hI.1 72 6
      have kc89 : 0 ≤ (m.1 72 25).toInt ∧ (m.1 72 25).toInt ≤ 14 := hI.1 72 25
      have kc90 := zI.le hI
      have kc91 : ((sm_w1 m 72 0 (0 : Int32)).1 72 25).toInt = (m.1 72 25).toInt := rfl
      have kc92 : (r2.2.1 72 6).toInt = ((sm_w1 m 72 0 (0 : Int32)).1 72 6).toInt := congrArg Int32.toInt (kf7 72 6 rfl)
      have kc93 : ((sm_w1 r2.2 72 24 (r2.2.1 72 3)).1 72 25).toInt = (r2.2.1 72 25).toInt := rfl
      have kc94 : (r6.2.1 72 6).toInt = ((sm_w1 r2.2 72 24 (r2.2.1 72 3)).1 72 6).toInt := congrArg Int32.toInt (kf29 72 6 rfl)
      have kc95 : 0 ≤ (r6.2.1 72 21).toInt ∧ (r6.2.1 72 21).toInt ≤ 80 := ki28.1 72 21
      have kc96 : (r6.2.1 72 21).toInt = ((sm_w1 r2.2 72 24 (r2.2.1 72 3)).1 72 21).toInt := congrArg Int32.toInt (kf29 72 21 rfl)
      have kc97 : 0 ≤ ((sm_w1 r2.2 72 24 (r2.2.1 72 3)).1 72 21).toInt ∧ ((sm_w1 r2.2 72 24 (r2.2.1 72 3)).1 72 21).toInt ≤ 80 := ki25.1 72 21
      have kc98 : ((sm_w1 r2.2 72 24 (r2.2.1 72 3)).1 72 21).toInt = (r2.2.1 72 21).toInt := rfl
      have kf99 : Fr wX12_tour m (sm_w1 m 72 0 (0 : Int32)) := Fr.w Fr.refl rfl
      have kf100 : Fr wX12_tour m r2.2 := Fr.trans kf99 kf7 rfl
      have kf101 : Fr wX12_tour m (sm_w1 r2.2 72 24 (r2.2.1 72 3)) := Fr.w kf100 rfl
      have kf102 : Fr wX12_tour m r6.2 := Fr.trans kf101 kf29 rfl
      exact zX12_tour_62 m sm_fu x1 r2.1 r6.1 r6.1 (0 : Int32) (0 : Int32) (0 : Int32) (1 : Int32) r6.2 (show 0 ≤ x1.toInt ∧ x1.toInt ≤ 1 ∧ 0 ≤ (r2.1).toInt ∧ (r2.1).toInt ≤ 80 ∧ (-1 : Int) ≤ (r6.1).toInt ∧ (r6.1).toInt ≤ 9 ∧ (-1 : Int) ≤ (r6.1).toInt ∧ (r6.1).toInt ≤ 9 ∧ 0 ≤ (0 : Int32).toInt ∧ (0 : Int32).toInt ≤ 30 ∧ 0 ≤ (0 : Int32).toInt ∧ (0 : Int32).toInt ≤ 16383 ∧ 0 ≤ (1 : Int32).toInt ∧ (1 : Int32).toInt ≤ 1 ∧ 2 * (81 - (r6.2.1 72 22).toInt) + (1 : Int32).toInt < (sm_fu : Int) ∧ (r6.2.1 72 23).toInt ≤ 30 ∧ (0 : Int32).toInt ≤ (r6.2.1 72 22).toInt ∧ (1 ≤ (0 : Int32).toInt → 1 ≤ (r6.2.1 72 6).toInt) ∧ (r6.2.1 72 21).toInt = 0 by omega) ki28 kf102
theorem zX12_putsWalker_18 (m0 : sm_S) : ∀ (n : Nat) (v1 : Int32) (m : sm_S), (0 ≤ v1.toInt ∧ v1.toInt ≤ 14 ∧ 14 - v1.toInt < (n : Int)) → zI m → Fr wX12_putsWalker m0 m → Sf (fun r => (True) ∧ zI r ∧ Fr wX12_putsWalker m0 r) (fX12_putsWalker_18 n v1 m) := by
  intro n
  induction n with
  | zero =>
    intro v1 m hp hI hF
    exfalso
    omega
  | succ n ih =>
    intro v1 m hp hI hF
    have hnn : ((n + 1 : Nat) : Int) = (n : Int) + 1 := by omega
    have hfu := fuE
    unfold fX12_putsWalker_18
    have kc1 := L14
    refine s_le (fun kh2 => ?_) (fun kh2 => ?_)
    · exact s_ret ⟨trivial, hI, hF⟩
    · have kx3 : 0 ≤ (v1).toInt ∧ (v1).toInt < (14 : Int) := by omega
      refine s_ix kx3 ?_
      refine s_ix kx3 ?_
      have kc4 : (v1 + (1 : Int32)).toInt = (v1).toInt + 1 := a_addl L1 (by omega) (by omega)
      have ki5 : zI (sm_w1 m 93 (v1).toNatClampNeg (m.1 83 (v1).toNatClampNeg)) := zI.w hI rfl (rg _)
      have kf6 : Fr wX12_putsWalker m0 (sm_w1 m 93 (v1).toNatClampNeg (m.1 83 (v1).toNatClampNeg)) := Fr.w hF rfl
      exact ih (v1 + (1 : Int32)) (sm_w1 m 93 (v1).toNatClampNeg (m.1 83 (v1).toNatClampNeg)) (show 0 ≤ (v1 + (1 : Int32)).toInt ∧ (v1 + (1 : Int32)).toInt ≤ 14 ∧ 14 - (v1 + (1 : Int32)).toInt < (n : Int) by omega) ki5 kf6
theorem zX12_putsWalker (m : sm_S) (hI : zI m) : Sf (fun r => (True) ∧ zI r ∧ Fr wX12_putsWalker m r) (fX12_putsWalker m) := by
  have hfu := fuE
  unfold fX12_putsWalker
  have kc1 := L0
  have kc2 : 0 ≤ (m.1 72 17).toInt ∧ (m.1 72 17).toInt ≤ 9 := hI.1 72 17
  have ki3 : zI (sm_w1 m 72 36 (m.1 72 17)) := zI.w hI rfl (show 0 ≤ ((m.1 72 17)).toInt ∧ ((m.1 72 17)).toInt ≤ 9 by omega)
  have kc4 : 0 ≤ (m.1 72 18).toInt ∧ (m.1 72 18).toInt ≤ 9999 := hI.1 72 18
  have ki5 : zI (sm_w1 (sm_w1 m 72 36 (m.1 72 17)) 72 37 (m.1 72 18)) := zI.w ki3 rfl (show 0 ≤ ((m.1 72 18)).toInt ∧ ((m.1 72 18)).toInt ≤ 9999 by omega)
  have kf6 : Fr wX12_putsWalker m (sm_w1 m 72 36 (m.1 72 17)) := Fr.w Fr.refl rfl
  have kf7 : Fr wX12_putsWalker m (sm_w1 (sm_w1 m 72 36 (m.1 72 17)) 72 37 (m.1 72 18)) := Fr.w kf6 rfl
  exact zX12_putsWalker_18 m sm_fu (0 : Int32) (sm_w1 (sm_w1 m 72 36 (m.1 72 17)) 72 37 (m.1 72 18)) (show 0 ≤ (0 : Int32).toInt ∧ (0 : Int32).toInt ≤ 14 ∧ 14 - (0 : Int32).toInt < (sm_fu : Int) by omega) ki5 kf7
theorem zX12_putsBack_18 (m0 : sm_S) : ∀ (n : Nat) (v1 : Int32) (m : sm_S), (0 ≤ v1.toInt ∧ v1.toInt ≤ 14 ∧ 14 - v1.toInt < (n : Int)) → zI m → Fr wX12_putsBack m0 m → Sf (fun r => (True) ∧ zI r ∧ Fr wX12_putsBack m0 r) (fX12_putsBack_18 n v1 m) := by
  intro n
  induction n with
  | zero =>
    intro v1 m hp hI hF
    exfalso
    omega
  | succ n ih =>
    intro v1 m hp hI hF
    have hnn : ((n + 1 : Nat) : Int) = (n : Int) + 1 := by omega
    have hfu := fuE
    unfold fX12_putsBack_18
    have kc1 := L14
    refine s_le (fun kh2 => ?_) (fun kh2 => ?_)
    · exact s_ret ⟨trivial, hI, hF⟩
    · have kx3 : 0 ≤ (v1).toInt ∧ (v1).toInt < (14 : Int) := by omega
      refine s_ix kx3 ?_
      refine s_ix kx3 ?_
      have kc4 : (v1 + (1 : Int32)).toInt = (v1).toInt + 1 := a_addl L1 (by omega) (by omega)
      have ki5 : zI (sm_w1 m 83 (v1).toNatClampNeg (m.1 93 (v1).toNatClampNeg)) := zI.w hI rfl (rg _)
      have kf6 : Fr wX12_putsBack m0 (sm_w1 m 83 (v1).toNatClampNeg (m.1 93 (v1).toNatClampNeg)) := Fr.w hF rfl
      exact ih (v1 + (1 : Int32)) (sm_w1 m 83 (v1).toNatClampNeg (m.1 93 (v1).toNatClampNeg)) (show 0 ≤ (v1 + (1 : Int32)).toInt ∧ (v1 + (1 : Int32)).toInt ≤ 14 ∧ 14 - (v1 + (1 : Int32)).toInt < (n : Int) by omega) ki5 kf6
theorem zX12_putsBack (m : sm_S) (hI : zI m) : Sf (fun r => (True) ∧ zI r ∧ Fr wX12_putsBack m r) (fX12_putsBack m) := by
  have hfu := fuE
  unfold fX12_putsBack
  have kc1 := L0
  have kc2 : 0 ≤ (m.1 72 36).toInt ∧ (m.1 72 36).toInt ≤ 9 := hI.1 72 36
  have ki3 : zI (sm_w1 m 72 17 (m.1 72 36)) := zI.w hI rfl (show 0 ≤ ((m.1 72 36)).toInt ∧ ((m.1 72 36)).toInt ≤ 9 by omega)
  have kc4 : 0 ≤ (m.1 72 37).toInt ∧ (m.1 72 37).toInt ≤ 9999 := hI.1 72 37
  have ki5 : zI (sm_w1 (sm_w1 m 72 17 (m.1 72 36)) 72 18 (m.1 72 37)) := zI.w ki3 rfl (show 0 ≤ ((m.1 72 37)).toInt ∧ ((m.1 72 37)).toInt ≤ 9999 by omega)
  have kf6 : Fr wX12_putsBack m (sm_w1 m 72 17 (m.1 72 36)) := Fr.w Fr.refl rfl
  have kf7 : Fr wX12_putsBack m (sm_w1 (sm_w1 m 72 17 (m.1 72 36)) 72 18 (m.1 72 37)) := Fr.w kf6 rfl
  exact zX12_putsBack_18 m sm_fu (0 : Int32) (sm_w1 (sm_w1 m 72 17 (m.1 72 36)) 72 18 (m.1 72 37)) (show 0 ≤ (0 : Int32).toInt ∧ (0 : Int32).toInt ≤ 14 ∧ 14 - (0 : Int32).toInt < (sm_fu : Int) by omega) ki5 kf7
theorem zX12_look_57 (m0 : sm_S) : ∀ (n : Nat) (v1 : Int32) (v2 : Int32) (v3 : Int32) (v4 : Int32) (v5 : Int32) (v6 : Int32) (m : sm_S), (0 ≤ v1.toInt ∧ v1.toInt ≤ 1 ∧ (-2 : Int) ≤ v2.toInt ∧ v2.toInt ≤ 29 ∧ (-5 : Int) ≤ v3.toInt ∧ v3.toInt ≤ 0 ∧ 0 ≤ v6.toInt ∧ v6.toInt ≤ 30 ∧ 30 - v6.toInt < (n : Int)) → zI m → Fr wX12_look m0 m → Sf (fun r => (((-3 : Int) ≤ r.1.toInt) ∧ (r.1.toInt ≤ 29)) ∧ zI r.2 ∧ Fr wX12_look m0 r.2) (fX12_look_57 n v1 v2 v3 v4 v5 v6 m) := by
  intro n
  induction n with
  | zero =>
    intro v1 v2 v3 v4 v5 v6 m hp hI hF
    exfalso
    omega
  | succ n ih =>
    intro v1 v2 v3 v4 v5 v6 m hp hI hF
    have hnn : ((n + 1 : Nat) : Int) = (n : Int) + 1 := by omega
    have hfu := fuE
    unfold fX12_look_57
    have kx1 : 0 ≤ (v1).toInt ∧ (v1).toInt < (2 : Int) := by omega
    refine s_ix kx1 ?_
    have kc2 : 0 ≤ (m.1 90 (v1).toNatClampNeg).toInt ∧ (m.1 90 (v1).toNatClampNeg).toInt ≤ 30 := hI.1 90 (v1).toNatClampNeg
    have kc3 : 0 ≤ (m.1 72 6).toInt ∧ (m.1 72 6).toInt ≤ 14 := hI.1 72 6
    have kc4 : 0 ≤ (m.1 72 25).toInt ∧ (m.1 72 25).toInt ≤ 14 := hI.1 72 25
    have kc5 := zI.le hI
    have kc6 := zI.h90 hI (v1).toNatClampNeg
    refine s_le (fun kh7 => ?_) (fun kh7 => ?_)
    · refine s_bd (zX12_putsBack m hI) (fun m9 kr8 => ?_)
      obtain ⟨kp9, ki10, kf11⟩ := kr8
      have kc12 := L0
      have ki13 : zI (sm_w1 m9 72 1 (0 : Int32)) := zI.w ki10 rfl (show 0 ≤ ((0 : Int32)).toInt ∧ ((0 : Int32)).toInt ≤ 24 by omega)
      have kc14 : 0 ≤ ((sm_w1 m9 72 1 (0 : Int32)).1 72 1).toInt ∧ ((sm_w1 m9 72 1 (0 : Int32)).1 72 1).toInt ≤ 24 := ki13.1 72 1
      have kc15 : ((sm_w1 m9 72 1 (0 : Int32)).1 72 1).toInt = ((0 : Int32)).toInt := rfl
      refine s_bd (zX12_enters v3 (sm_w1 m9 72 1 (0 : Int32)) (show ((sm_w1 m9 72 1 (0 : Int32)).1 72 1).toInt ≤ 23 by omega) ki13) (fun m11 kr16 => ?_)
      obtain ⟨kp17, ki18, kf19⟩ := kr16
      replace kp17 : ((m11.1 72 1).toInt = ((sm_w1 m9 72 1 (0 : Int32)).1 72 1).toInt + 1) := kp17
      have kc20 : 0 ≤ (m11.1 72 1).toInt ∧ (m11.1 72 1).toInt ≤ 24 := ki18.1 72 1
      refine s_bd (zX12_enters v4 m11 (show (m11.1 72 1).toInt ≤ 23 by omega) ki18) (fun m13 kr21 => ?_)
      obtain ⟨kp22, ki23, kf24⟩ := kr21
      replace kp22 : ((m13.1 72 1).toInt = (m11.1 72 1).toInt + 1) := kp22
      have kc25 : 0 ≤ (m13.1 72 1).toInt ∧ (m13.1 72 1).toInt ≤ 24 := ki23.1 72 1
      refine s_bd (zX12_enters v5 m13 (show (m13.1 72 1).toInt ≤ 23 by omega) ki23) (fun m15 kr26 => ?_)
      obtain ⟨kp27, ki28, kf29⟩ := kr26
      replace kp27 : ((m15.1 72 1).toInt = (m13.1 72 1).toInt + 1) := kp27
      have kc30 : 0 ≤ (m15.1 72 1).toInt ∧ (m15.1 72 1).toInt ≤ 24 := ki28.1 72 1
      have kf31 : Fr wX12_look m0 m9 := Fr.trans hF kf11 rfl
      have kf32 : Fr wX12_look m0 (sm_w1 m9 72 1 (0 : Int32)) := Fr.w kf31 rfl
      have kf33 : Fr wX12_look m0 m11 := Fr.trans kf32 kf19 rfl
      have kf34 : Fr wX12_look m0 m13 := Fr.trans kf33 kf24 rfl
      have kf35 : Fr wX12_look m0 m15 := Fr.trans kf34 kf29 rfl
      exact s_ret ⟨(show ((-3 : Int) ≤ v2.toInt) ∧ (v2.toInt ≤ 29) by omega), ki28, kf35⟩
    · have kc36 := Ln2
      refine s_eq (fun kh37 => ?_) (fun kh37 => ?_)
      · have kc38 := L30
        have kc39 : ((30 : Int32) * v1).toInt = 30 * (v1).toInt := a_mul L30 rfl (by omega) (by omega)
        have kc40 : (((30 : Int32) * v1) + v6).toInt = (((30 : Int32) * v1)).toInt + (v6).toInt := a_add (by omega) (by omega)
        have kx41 : 0 ≤ ((((30 : Int32) * v1) + v6)).toInt ∧ ((((30 : Int32) * v1) + v6)).toInt < (60 : Int) := by omega
        refine s_ix kx41 ?_
        have kc42 : 0 ≤ (m.1 91 ((((30 : Int32) * v1) + v6)).toNatClampNeg).toInt ∧ (m.1 91 ((((30 : Int32) * v1) + v6)).toNatClampNeg).toInt ≤ 13 := hI.1 91 ((((30 : Int32) * v1) + v6)).toNatClampNeg
        have kc43 := zI.h91 hI ((((30 : Int32) * v1) + v6)).toNatClampNeg
        refine s_bd (zX12_whyNot (m.1 91 ((((30 : Int32) * v1) + v6)).toNatClampNeg) m (show 0 ≤ (m.1 91 ((((30 : Int32) * v1) + v6)).toNatClampNeg).toInt ∧ (m.1 91 ((((30 : Int32) * v1) + v6)).toNatClampNeg).toInt ≤ 13 ∧ (m.1 91 ((((30 : Int32) * v1) + v6)).toNatClampNeg).toInt < (m.1 72 6).toInt by omega) hI) (fun r26 kr44 => ?_)
        replace kr44 : ((-5 : Int) ≤ r26.toInt) ∧ (r26.toInt ≤ 0) ∧ (r26.toInt < 0 ∨ (((m.1 72 17).toInt = (m.1 76 (m.1 91 ((((30 : Int32) * v1) + v6)).toNatClampNeg).toNatClampNeg).toInt ∧ (m.1 72 18).toInt + (m.1 78 (m.1 91 ((((30 : Int32) * v1) + v6)).toNatClampNeg).toNatClampNeg).toInt ≤ (m.1 72 16).toInt) ∨ ((m.1 72 17).toInt ≠ (m.1 76 (m.1 91 ((((30 : Int32) * v1) + v6)).toNatClampNeg).toNatClampNeg).toInt ∧ (m.1 72 18).toInt + (m.1 78 (m.1 91 ((((30 : Int32) * v1) + v6)).toNatClampNeg).toNatClampNeg).toInt + (m.1 82 (m.1 91 ((((30 : Int32) * v1) + v6)).toNatClampNeg).toNatClampNeg).toInt ≤ (m.1 72 16).toInt))) := kr44
        have kc45 : 0 ≤ (m.1 72 17).toInt ∧ (m.1 72 17).toInt ≤ 9 := hI.1 72 17
        have kc46 : 0 ≤ (m.1 72 18).toInt ∧ (m.1 72 18).toInt ≤ 9999 := hI.1 72 18
        have kc47 : 0 ≤ (m.1 72 16).toInt ∧ (m.1 72 16).toInt ≤ 9999 := hI.1 72 16
        have kc48 : (-1 : Int) ≤ (m.1 76 ((m.1 91 ((((30 : Int32) * v1) + v6)).toNatClampNeg)).toNatClampNeg).toInt ∧ (m.1 76 ((m.1 91 ((((30 : Int32) * v1) + v6)).toNatClampNeg)).toNatClampNeg).toInt ≤ 9 := hI.1 76 ((m.1 91 ((((30 : Int32) * v1) + v6)).toNatClampNeg)).toNatClampNeg
        have kc49 : 0 ≤ (m.1 76 ((m.1 91 ((((30 : Int32) * v1) + v6)).toNatClampNeg)).toNatClampNeg).toInt := zI.pf76 hI (m.1 91 ((((30 : Int32) * v1) + v6)).toNatClampNeg) (by omega) (by omega)
        have kc50 : (-1 : Int) ≤ (m.1 78 ((m.1 91 ((((30 : Int32) * v1) + v6)).toNatClampNeg)).toNatClampNeg).toInt ∧ (m.1 78 ((m.1 91 ((((30 : Int32) * v1) + v6)).toNatClampNeg)).toNatClampNeg).toInt ≤ 20 := hI.1 78 ((m.1 91 ((((30 : Int32) * v1) + v6)).toNatClampNeg)).toNatClampNeg
        have kc51 : 1 ≤ (m.1 78 ((m.1 91 ((((30 : Int32) * v1) + v6)).toNatClampNeg)).toNatClampNeg).toInt := zI.pf78 hI (m.1 91 ((((30 : Int32) * v1) + v6)).toNatClampNeg) (by omega) (by omega)
        have kc52 : (-1 : Int) ≤ (m.1 82 ((m.1 91 ((((30 : Int32) * v1) + v6)).toNatClampNeg)).toNatClampNeg).toInt ∧ (m.1 82 ((m.1 91 ((((30 : Int32) * v1) + v6)).toNatClampNeg)).toNatClampNeg).toInt ≤ 9 := hI.1 82 ((m.1 91 ((((30 : Int32) * v1) + v6)).toNatClampNeg)).toNatClampNeg
        have kc53 : 0 ≤ (m.1 82 ((m.1 91 ((((30 : Int32) * v1) + v6)).toNatClampNeg)).toNatClampNeg).toInt := zI.pf82 hI (m.1 91 ((((30 : Int32) * v1) + v6)).toNatClampNeg) (by omega) (by omega)
        have kc54 := L0
        refine s_le (fun kh55 => ?_) (fun kh55 => ?_)
        · refine s_bd (zX12_walks (m.1 91 ((((30 : Int32) * v1) + v6)).toNatClampNeg) m (show 0 ≤ (m.1 91 ((((30 : Int32) * v1) + v6)).toNatClampNeg).toInt ∧ (m.1 91 ((((30 : Int32) * v1) + v6)).toNatClampNeg).toInt ≤ 13 ∧ (m.1 91 ((((30 : Int32) * v1) + v6)).toNatClampNeg).toInt < (m.1 72 6).toInt ∧ (((m.1 72 17).toInt = (m.1 76 (m.1 91 ((((30 : Int32) * v1) + v6)).toNatClampNeg).toNatClampNeg).toInt ∧ (m.1 72 18).toInt + (m.1 78 (m.1 91 ((((30 : Int32) * v1) + v6)).toNatClampNeg).toNatClampNeg).toInt ≤ 9999) ∨ ((m.1 72 17).toInt ≠ (m.1 76 (m.1 91 ((((30 : Int32) * v1) + v6)).toNatClampNeg).toNatClampNeg).toInt ∧ (m.1 72 18).toInt + (m.1 78 (m.1 91 ((((30 : Int32) * v1) + v6)).toNatClampNeg).toNatClampNeg).toInt + (m.1 82 (m.1 91 ((((30 : Int32) * v1) + v6)).toNatClampNeg).toNatClampNeg).toInt ≤ 9999)) by omega) hI) (fun r28 kr56 => ?_)
          obtain ⟨kp57, ki58, kf59⟩ := kr56
          replace kp57 : (1 ≤ r28.1.toInt) ∧ (r28.1.toInt ≤ 29) ∧ ((r28.2.1 72 18).toInt = (m.1 72 18).toInt + r28.1.toInt) := kp57
          have kc60 : 0 ≤ (r28.2.1 72 18).toInt ∧ (r28.2.1 72 18).toInt ≤ 9999 := ki58.1 72 18
          have kx61 : 0 ≤ ((m.1 91 ((((30 : Int32) * v1) + v6)).toNatClampNeg)).toInt ∧ ((m.1 91 ((((30 : Int32) * v1) + v6)).toNatClampNeg)).toInt < (14 : Int) := by omega
          refine s_ix kx61 ?_
          have kc62 : (-1 : Int) ≤ (r28.2.1 81 ((m.1 91 ((((30 : Int32) * v1) + v6)).toNatClampNeg)).toNatClampNeg).toInt ∧ (r28.2.1 81 ((m.1 91 ((((30 : Int32) * v1) + v6)).toNatClampNeg)).toNatClampNeg).toInt ≤ 9 := ki58.1 81 ((m.1 91 ((((30 : Int32) * v1) + v6)).toNatClampNeg)).toNatClampNeg
          have kc63 : (r28.2.1 81 ((m.1 91 ((((30 : Int32) * v1) + v6)).toNatClampNeg)).toNatClampNeg).toInt = (m.1 81 ((m.1 91 ((((30 : Int32) * v1) + v6)).toNatClampNeg)).toNatClampNeg).toInt := congrArg Int32.toInt (kf59 81 ((m.1 91 ((((30 : Int32) * v1) + v6)).toNatClampNeg)).toNatClampNeg rfl)
          have kc64 : (-1 : Int) ≤ (m.1 81 ((m.1 91 ((((30 : Int32) * v1) + v6)).toNatClampNeg)).toNatClampNeg).toInt ∧ (m.1 81 ((m.1 91 ((((30 : Int32) * v1) + v6)).toNatClampNeg)).toNatClampNeg).toInt ≤ 9 := hI.1 81 ((m.1 91 ((((30 : Int32) * v1) + v6)).toNatClampNeg)).toNatClampNeg
          have kc65 : (v6 + (1 : Int32)).toInt = (v6).toInt + 1 := a_addl L1 (by omega) (by omega)
          have kf66 : Fr wX12_look m0 r28.2 := Fr.trans hF kf59 rfl
          exact ih v1 v2 r26 (v4 + r28.1) (v5 + (r28.2.1 81 ((m.1 91 ((((30 : Int32) * v1) + v6)).toNatClampNeg)).toNatClampNeg)) (v6 + (1 : Int32)) r28.2 (show 0 ≤ v1.toInt ∧ v1.toInt ≤ 1 ∧ (-2 : Int) ≤ v2.toInt ∧ v2.toInt ≤ 29 ∧ (-5 : Int) ≤ r26.toInt ∧ r26.toInt ≤ 0 ∧ 0 ≤ (v6 + (1 : Int32)).toInt ∧ (v6 + (1 : Int32)).toInt ≤ 30 ∧ 30 - (v6 + (1 : Int32)).toInt < (n : Int) by omega) ki58 kf66
        · have kc67 : (v6 + (1 : Int32)).toInt = (v6).toInt + 1 := a_addl L1 (by omega) (by omega)
          exact ih v1 v6 r26 v4 v5 (v6 + (1 : Int32)) m (show 0 ≤ v1.toInt ∧ v1.toInt ≤ 1 ∧ (-2 : Int) ≤ v6.toInt ∧ v6.toInt ≤ 29 ∧ (-5 : Int) ≤ r26.toInt ∧ r26.toInt ≤ 0 ∧ 0 ≤ (v6 + (1 : Int32)).toInt ∧ (v6 + (1 : Int32)).toInt ≤ 30 ∧ 30 - (v6 + (1 : Int32)).toInt < (n : Int) by omega) hI hF
      · refine s_bd (zX12_putsBack m hI) (fun m17 kr68 => ?_)
        obtain ⟨kp69, ki70, kf71⟩ := kr68
        have kc72 := L0
        have ki73 : zI (sm_w1 m17 72 1 (0 : Int32)) := zI.w ki70 rfl (show 0 ≤ ((0 : Int32)).toInt ∧ ((0 : Int32)).toInt ≤ 24 by omega)
        have kc74 : 0 ≤ ((sm_w1 m17 72 1 (0 : Int32)).1 72 1).toInt ∧ ((sm_w1 m17 72 1 (0 : Int32)).1 72 1).toInt ≤ 24 := ki73.1 72 1
        have kc75 : ((sm_w1 m17 72 1 (0 : Int32)).1 72 1).toInt = ((0 : Int32)).toInt := rfl
        refine s_bd (zX12_enters v3 (sm_w1 m17 72 1 (0 : Int32)) (show ((sm_w1 m17 72 1 (0 : Int32)).1 72 1).toInt ≤ 23 by omega) ki73) (fun m19 kr76 => ?_)
        obtain ⟨kp77, ki78, kf79⟩ := kr76
        replace kp77 : ((m19.1 72 1).toInt = ((sm_w1 m17 72 1 (0 : Int32)).1 72 1).toInt + 1) := kp77
        have kc80 : 0 ≤ (m19.1 72 1).toInt ∧ (m19.1 72 1).toInt ≤ 24 := ki78.1 72 1
        refine s_bd (zX12_enters v4 m19 (show (m19.1 72 1).toInt ≤ 23 by omega) ki78) (fun m21 kr81 => ?_)
        obtain ⟨kp82, ki83, kf84⟩ := kr81
        replace kp82 : ((m21.1 72 1).toInt = (m19.1 72 1).toInt + 1) := kp82
        have kc85 : 0 ≤ (m21.1 72 1).toInt ∧ (m21.1 72 1).toInt ≤ 24 := ki83.1 72 1
        refine s_bd (zX12_enters v5 m21 (show (m21.1 72 1).toInt ≤ 23 by omega) ki83) (fun m23 kr86 => ?_)
        obtain ⟨kp87, ki88, kf89⟩ := kr86
        replace kp87 : ((m23.1 72 1).toInt = (m21.1 72 1).toInt + 1) := kp87
        have kc90 : 0 ≤ (m23.1 72 1).toInt ∧ (m23.1 72 1).toInt ≤ 24 := ki88.1 72 1
        have kf91 : Fr wX12_look m0 m17 := Fr.trans hF kf71 rfl
        have kf92 : Fr wX12_look m0 (sm_w1 m17 72 1 (0 : Int32)) := Fr.w kf91 rfl
        have kf93 : Fr wX12_look m0 m19 := Fr.trans kf92 kf79 rfl
        have kf94 : Fr wX12_look m0 m21 := Fr.trans kf93 kf84 rfl
        have kf95 : Fr wX12_look m0 m23 := Fr.trans kf94 kf89 rfl
        exact s_ret ⟨(show ((-3 : Int) ≤ v2.toInt) ∧ (v2.toInt ≤ 29) by omega), ki88, kf95⟩
theorem zX12_look (x1 : Int32) (m : sm_S) (hI : zI m) : Sf (fun r => (((-3 : Int) ≤ r.1.toInt) ∧ (r.1.toInt ≤ 29)) ∧ zI r.2 ∧ Fr wX12_look m r.2) (fX12_look x1 m) := by
  have hfu := fuE
  unfold fX12_look
  have kc1 : (x1).toInt64.toInt = (x1).toInt := Int32.toInt_toInt64 _
  have kc2 := LL0
  have kc3 := LL1
  have kc4 := L0
  have ki5 : zI (sm_w1 m 72 0 (0 : Int32)) := zI.w hI rfl (show 0 ≤ ((0 : Int32)).toInt ∧ ((0 : Int32)).toInt ≤ 1 by omega)
  refine s_bd (zX12_in (x1).toInt64 (0 : Int64) (1 : Int64) (sm_w1 m 72 0 (0 : Int32)) (show (-1 : Int) ≤ (0 : Int64).toInt ∧ (0 : Int64).toInt ≤ 48 ∧ (-1 : Int) ≤ (1 : Int64).toInt ∧ (1 : Int64).toInt ≤ 9999 by omega) ki5) (fun r2 kr6 => ?_)
  replace kr6 : (0 ≤ r2.toInt) ∧ (r2.toInt ≤ 1) ∧ ((r2.toInt = 0 ∧ ((x1).toInt64.toInt < (0 : Int64).toInt ∨ (1 : Int64).toInt < (x1).toInt64.toInt)) ∨ (r2.toInt = 1 ∧ (0 : Int64).toInt ≤ (x1).toInt64.toInt ∧ (x1).toInt64.toInt ≤ (1 : Int64).toInt)) := kr6
  refine s_eq (fun kh7 => ?_) (fun kh7 => ?_)
  · have kc8 := Ln1
    have kf9 : Fr wX12_look m (sm_w1 m 72 0 (0 : Int32)) := Fr.w Fr.refl rfl
    exact s_ret ⟨(show ((-3 : Int) ≤ (-1 : Int32).toInt) ∧ ((-1 : Int32).toInt ≤ 29) by omega), ki5, kf9⟩
  · have kx10 : 0 ≤ (x1).toInt ∧ (x1).toInt < (2 : Int) := by omega
    refine s_ix kx10 ?_
    have kc11 : (-1 : Int) ≤ (m.1 89 (x1).toNatClampNeg).toInt ∧ (m.1 89 (x1).toNatClampNeg).toInt ≤ 9 := hI.1 89 (x1).toNatClampNeg
    refine s_le (fun kh12 => ?_) (fun kh12 => ?_)
    · refine s_bd (zX12_putsWalker (sm_w1 m 72 0 (0 : Int32)) ki5) (fun m5 kr13 => ?_)
      obtain ⟨kp14, ki15, kf16⟩ := kr13
      refine s_ix kx10 ?_
      have kc17 := Ln2
      have kc18 : (-1 : Int) ≤ (m5.1 89 (x1).toNatClampNeg).toInt ∧ (m5.1 89 (x1).toNatClampNeg).toInt ≤ 9 := ki15.1 89 (x1).toNatClampNeg
      have kc19 : (m5.1 89 (x1).toNatClampNeg).toInt = ((sm_w1 m 72 0 (0 : Int32)).1 89 (x1).toNatClampNeg).toInt := congrArg Int32.toInt (kf16 89 (x1).toNatClampNeg rfl)
      have kc20 : (-1 : Int) ≤ ((sm_w1 m 72 0 (0 : Int32)).1 89 (x1).toNatClampNeg).toInt ∧ ((sm_w1 m 72 0 (0 : Int32)).1 89 (x1).toNatClampNeg).toInt ≤ 9 := ki5.1 89 (x1).toNatClampNeg
      have kc21 : ((sm_w1 m 72 0 (0 : Int32)).1 89 (x1).toNatClampNeg).toInt = (m.1 89 (x1).toNatClampNeg).toInt := congrArg Int32.toInt (r_cell (by decide))
      have ki22 : zI (sm_w1 m5 72 17 (m5.1 89 (x1).toNatClampNeg)) := zI.w ki15 rfl (show 0 ≤ ((m5.1 89 (x1).toNatClampNeg)).toInt ∧ ((m5.1 89 (x1).toNatClampNeg)).toInt ≤ 9 by omega)
      have kf23 : Fr wX12_look m (sm_w1 m 72 0 (0 : Int32)) := Fr.w Fr.refl rfl
      have kf24 : Fr wX12_look m m5 := Fr.trans kf23 kf16 rfl
      have kf25 : Fr wX12_look m (sm_w1 m5 72 17 (m5.1 89 (x1).toNatClampNeg)) := Fr.w kf24 rfl
      exact zX12_look_57 m sm_fu x1 (-2 : Int32) (0 : Int32) (0 : Int32) (0 : Int32) (0 : Int32) (sm_w1 m5 72 17 (m5.1 89 (x1).toNatClampNeg)) (show 0 ≤ x1.toInt ∧ x1.toInt ≤ 1 ∧ (-2 : Int) ≤ (-2 : Int32).toInt ∧ (-2 : Int32).toInt ≤ 29 ∧ (-5 : Int) ≤ (0 : Int32).toInt ∧ (0 : Int32).toInt ≤ 0 ∧ 0 ≤ (0 : Int32).toInt ∧ (0 : Int32).toInt ≤ 30 ∧ 30 - (0 : Int32).toInt < (sm_fu : Int) by omega) ki22 kf25
    · have kc26 := Ln3
      have kf27 : Fr wX12_look m (sm_w1 m 72 0 (0 : Int32)) := Fr.w Fr.refl rfl
      exact s_ret ⟨(show ((-3 : Int) ≤ (-3 : Int32).toInt) ∧ ((-3 : Int32).toInt ≤ 29) by omega), ki5, kf27⟩
theorem zX12_cornerOf_28 (m0 : sm_S) : ∀ (n : Nat) (v1 : Int32) (v3 : Int32) (v4 : Int32) (v5 : Int32) (v6 : Int32) (v7 : Int32) (m : sm_S), (0 ≤ v1.toInt ∧ v1.toInt ≤ 1 ∧ 0 ≤ v3.toInt ∧ v3.toInt ≤ 969 ∧ (-1 : Int) ≤ v4.toInt ∧ v4.toInt ≤ 9 ∧ 0 ≤ v5.toInt ∧ v5.toInt ≤ 969 ∧ (-1 : Int) ≤ v6.toInt ∧ v6.toInt ≤ 9 ∧ 0 ≤ v7.toInt ∧ v7.toInt ≤ 30 ∧ 30 - v7.toInt < (n : Int) ∧ 0 ≤ v5.toInt ∧ v5.toInt ≤ 99 + 29 * v7.toInt) → zI m → Fr wX12_cornerOf m0 m → Sf (fun r => (((-1 : Int) ≤ r.1.toInt) ∧ (r.1.toInt ≤ 9)) ∧ zI r.2 ∧ Fr wX12_cornerOf m0 r.2) (fX12_cornerOf_28 n v1 v3 v4 v5 v6 v7 m) := by
  intro n
  induction n with
  | zero =>
    intro v1 v3 v4 v5 v6 v7 m hp hI hF
    exfalso
    omega
  | succ n ih =>
    intro v1 v3 v4 v5 v6 v7 m hp hI hF
    have hnn : ((n + 1 : Nat) : Int) = (n : Int) + 1 := by omega
    have hfu := fuE
    unfold fX12_cornerOf_28
    have kx1 : 0 ≤ (v1).toInt ∧ (v1).toInt < (2 : Int) := by omega
    refine s_ix kx1 ?_
    have kc2 : 0 ≤ (m.1 90 (v1).toNatClampNeg).toInt ∧ (m.1 90 (v1).toNatClampNeg).toInt ≤ 30 := hI.1 90 (v1).toNatClampNeg
    have kc3 : 0 ≤ (m.1 72 6).toInt ∧ (m.1 72 6).toInt ≤ 14 := hI.1 72 6
    have kc4 : 0 ≤ (m.1 72 25).toInt ∧ (m.1 72 25).toInt ≤ 14 := hI.1 72 25
    have kc5 := zI.le hI
    have kc6 := zI.h90 hI (v1).toNatClampNeg
    refine s_le (fun kh7 => ?_) (fun kh7 => ?_)
    · refine s_lt (fun kh8 => ?_) (fun kh8 => ?_)
      · have ki9 : zI (sm_w1 m 72 39 v5) := zI.w hI rfl (show 0 ≤ (v5).toInt ∧ (v5).toInt ≤ 969 by omega)
        have kf10 : Fr wX12_cornerOf m0 (sm_w1 m 72 39 v5) := Fr.w hF rfl
        exact s_ret ⟨(show ((-1 : Int) ≤ v6.toInt) ∧ (v6.toInt ≤ 9) by omega), ki9, kf10⟩
      · have ki11 : zI (sm_w1 m 72 39 v5) := zI.w hI rfl (show 0 ≤ (v5).toInt ∧ (v5).toInt ≤ 969 by omega)
        have kf12 : Fr wX12_cornerOf m0 (sm_w1 m 72 39 v5) := Fr.w hF rfl
        exact s_ret ⟨(show ((-1 : Int) ≤ v4.toInt) ∧ (v4.toInt ≤ 9) by omega), ki11, kf12⟩
    · have kc13 := L30
      have kc14 : ((30 : Int32) * v1).toInt = 30 * (v1).toInt := a_mul L30 rfl (by omega) (by omega)
      have kc15 : (((30 : Int32) * v1) + v7).toInt = (((30 : Int32) * v1)).toInt + (v7).toInt := a_add (by omega) (by omega)
      have kx16 : 0 ≤ ((((30 : Int32) * v1) + v7)).toInt ∧ ((((30 : Int32) * v1) + v7)).toInt < (60 : Int) := by omega
      refine s_ix kx16 ?_
      have kc17 : 0 ≤ (m.1 91 ((((30 : Int32) * v1) + v7)).toNatClampNeg).toInt ∧ (m.1 91 ((((30 : Int32) * v1) + v7)).toNatClampNeg).toInt ≤ 13 := hI.1 91 ((((30 : Int32) * v1) + v7)).toNatClampNeg
      have kc18 := zI.h91 hI ((((30 : Int32) * v1) + v7)).toNatClampNeg
      refine s_bd (zX12_minutesFrom (m.1 91 ((((30 : Int32) * v1) + v7)).toNatClampNeg) v4 m (show 0 ≤ (m.1 91 ((((30 : Int32) * v1) + v7)).toNatClampNeg).toInt ∧ (m.1 91 ((((30 : Int32) * v1) + v7)).toNatClampNeg).toInt ≤ 13 ∧ (-1 : Int) ≤ v4.toInt ∧ v4.toInt ≤ 9 ∧ (m.1 91 ((((30 : Int32) * v1) + v7)).toNatClampNeg).toInt < (m.1 72 6).toInt by omega) hI) (fun r5 kr19 => ?_)
      replace kr19 : (1 ≤ r5.toInt) ∧ (r5.toInt ≤ 29) ∧ ((v4.toInt = (m.1 76 (m.1 91 ((((30 : Int32) * v1) + v7)).toNatClampNeg).toNatClampNeg).toInt ∧ r5.toInt = (m.1 78 (m.1 91 ((((30 : Int32) * v1) + v7)).toNatClampNeg).toNatClampNeg).toInt) ∨ (v4.toInt ≠ (m.1 76 (m.1 91 ((((30 : Int32) * v1) + v7)).toNatClampNeg).toNatClampNeg).toInt ∧ r5.toInt = (m.1 78 (m.1 91 ((((30 : Int32) * v1) + v7)).toNatClampNeg).toNatClampNeg).toInt + (m.1 82 (m.1 91 ((((30 : Int32) * v1) + v7)).toNatClampNeg).toNatClampNeg).toInt)) := kr19
      have kc20 : (-1 : Int) ≤ (m.1 76 ((m.1 91 ((((30 : Int32) * v1) + v7)).toNatClampNeg)).toNatClampNeg).toInt ∧ (m.1 76 ((m.1 91 ((((30 : Int32) * v1) + v7)).toNatClampNeg)).toNatClampNeg).toInt ≤ 9 := hI.1 76 ((m.1 91 ((((30 : Int32) * v1) + v7)).toNatClampNeg)).toNatClampNeg
      have kc21 : 0 ≤ (m.1 76 ((m.1 91 ((((30 : Int32) * v1) + v7)).toNatClampNeg)).toNatClampNeg).toInt := zI.pf76 hI (m.1 91 ((((30 : Int32) * v1) + v7)).toNatClampNeg) (by omega) (by omega)
      have kc22 : (-1 : Int) ≤ (m.1 78 ((m.1 91 ((((30 : Int32) * v1) + v7)).toNatClampNeg)).toNatClampNeg).toInt ∧ (m.1 78 ((m.1 91 ((((30 : Int32) * v1) + v7)).toNatClampNeg)).toNatClampNeg).toInt ≤ 20 := hI.1 78 ((m.1 91 ((((30 : Int32) * v1) + v7)).toNatClampNeg)).toNatClampNeg
      have kc23 : 1 ≤ (m.1 78 ((m.1 91 ((((30 : Int32) * v1) + v7)).toNatClampNeg)).toNatClampNeg).toInt := zI.pf78 hI (m.1 91 ((((30 : Int32) * v1) + v7)).toNatClampNeg) (by omega) (by omega)
      have kc24 : (-1 : Int) ≤ (m.1 82 ((m.1 91 ((((30 : Int32) * v1) + v7)).toNatClampNeg)).toNatClampNeg).toInt ∧ (m.1 82 ((m.1 91 ((((30 : Int32) * v1) + v7)).toNatClampNeg)).toNatClampNeg).toInt ≤ 9 := hI.1 82 ((m.1 91 ((((30 : Int32) * v1) + v7)).toNatClampNeg)).toNatClampNeg
      have kc25 : 0 ≤ (m.1 82 ((m.1 91 ((((30 : Int32) * v1) + v7)).toNatClampNeg)).toNatClampNeg).toInt := zI.pf82 hI (m.1 91 ((((30 : Int32) * v1) + v7)).toNatClampNeg) (by omega) (by omega)
      refine s_bd (zX12_endOf (m.1 91 ((((30 : Int32) * v1) + v7)).toNatClampNeg) v4 m (show 0 ≤ (m.1 91 ((((30 : Int32) * v1) + v7)).toNatClampNeg).toInt ∧ (m.1 91 ((((30 : Int32) * v1) + v7)).toNatClampNeg).toInt ≤ 13 ∧ (-1 : Int) ≤ v4.toInt ∧ v4.toInt ≤ 9 ∧ (m.1 91 ((((30 : Int32) * v1) + v7)).toNatClampNeg).toInt < (m.1 72 6).toInt by omega) hI) (fun r7 kr26 => ?_)
      replace kr26 : (0 ≤ r7.toInt) ∧ (r7.toInt ≤ 9) := kr26
      have kc27 : (v5 + r5).toInt = (v5).toInt + (r5).toInt := a_add (by omega) (by omega)
      refine s_eq (fun kh28 => ?_) (fun kh28 => ?_)
      · have kc29 : (v7 + (1 : Int32)).toInt = (v7).toInt + 1 := a_addl L1 (by omega) (by omega)
        exact ih v1 v3 r7 (v5 + r5) r7 (v7 + (1 : Int32)) m (show 0 ≤ v1.toInt ∧ v1.toInt ≤ 1 ∧ 0 ≤ v3.toInt ∧ v3.toInt ≤ 969 ∧ (-1 : Int) ≤ r7.toInt ∧ r7.toInt ≤ 9 ∧ 0 ≤ (v5 + r5).toInt ∧ (v5 + r5).toInt ≤ 969 ∧ (-1 : Int) ≤ r7.toInt ∧ r7.toInt ≤ 9 ∧ 0 ≤ (v7 + (1 : Int32)).toInt ∧ (v7 + (1 : Int32)).toInt ≤ 30 ∧ 30 - (v7 + (1 : Int32)).toInt < (n : Int) ∧ 0 ≤ (v5 + r5).toInt ∧ (v5 + r5).toInt ≤ 99 + 29 * (v7 + (1 : Int32)).toInt by omega) hI hF
      · have kc30 : (v7 + (1 : Int32)).toInt = (v7).toInt + 1 := a_addl L1 (by omega) (by omega)
        exact ih v1 v3 r7 (v5 + r5) v6 (v7 + (1 : Int32)) m (show 0 ≤ v1.toInt ∧ v1.toInt ≤ 1 ∧ 0 ≤ v3.toInt ∧ v3.toInt ≤ 969 ∧ (-1 : Int) ≤ r7.toInt ∧ r7.toInt ≤ 9 ∧ 0 ≤ (v5 + r5).toInt ∧ (v5 + r5).toInt ≤ 969 ∧ (-1 : Int) ≤ v6.toInt ∧ v6.toInt ≤ 9 ∧ 0 ≤ (v7 + (1 : Int32)).toInt ∧ (v7 + (1 : Int32)).toInt ≤ 30 ∧ 30 - (v7 + (1 : Int32)).toInt < (n : Int) ∧ 0 ≤ (v5 + r5).toInt ∧ (v5 + r5).toInt ≤ 99 + 29 * (v7 + (1 : Int32)).toInt by omega) hI hF
theorem zX12_cornerOf (x1 : Int32) (x2 : Int32) (x3 : Int32) (m : sm_S) (hp : 0 ≤ x1.toInt ∧ x1.toInt ≤ 1 ∧ 0 ≤ x2.toInt ∧ x2.toInt ≤ 99 ∧ 0 ≤ x3.toInt ∧ x3.toInt ≤ 969) (hI : zI m) : Sf (fun r => (((-1 : Int) ≤ r.1.toInt) ∧ (r.1.toInt ≤ 9)) ∧ zI r.2 ∧ Fr wX12_cornerOf m r.2) (fX12_cornerOf x1 x2 x3 m) := by
  have hfu := fuE
  unfold fX12_cornerOf
  have kx1 : 0 ≤ (x1).toInt ∧ (x1).toInt < (2 : Int) := by omega
  refine s_ix kx1 ?_
  refine s_lt (fun kh2 => ?_) (fun kh2 => ?_)
  · have kc3 : (-1 : Int) ≤ (m.1 89 (x1).toNatClampNeg).toInt ∧ (m.1 89 (x1).toNatClampNeg).toInt ≤ 9 := hI.1 89 (x1).toNatClampNeg
    have kc4 := Ln1
    have kc5 := L0
    exact zX12_cornerOf_28 m sm_fu x1 x3 (m.1 89 (x1).toNatClampNeg) x2 (-1 : Int32) (0 : Int32) m (show 0 ≤ x1.toInt ∧ x1.toInt ≤ 1 ∧ 0 ≤ x3.toInt ∧ x3.toInt ≤ 969 ∧ (-1 : Int) ≤ (m.1 89 (x1).toNatClampNeg).toInt ∧ (m.1 89 (x1).toNatClampNeg).toInt ≤ 9 ∧ 0 ≤ x2.toInt ∧ x2.toInt ≤ 969 ∧ (-1 : Int) ≤ (-1 : Int32).toInt ∧ (-1 : Int32).toInt ≤ 9 ∧ 0 ≤ (0 : Int32).toInt ∧ (0 : Int32).toInt ≤ 30 ∧ 30 - (0 : Int32).toInt < (sm_fu : Int) ∧ 0 ≤ x2.toInt ∧ x2.toInt ≤ 99 + 29 * (0 : Int32).toInt by omega) hI Fr.refl
  · have kc6 : (-1 : Int) ≤ (m.1 89 (x1).toNatClampNeg).toInt ∧ (m.1 89 (x1).toNatClampNeg).toInt ≤ 9 := hI.1 89 (x1).toNatClampNeg
    have kc7 := L0
    exact zX12_cornerOf_28 m sm_fu x1 x3 (m.1 89 (x1).toNatClampNeg) x2 (m.1 89 (x1).toNatClampNeg) (0 : Int32) m (show 0 ≤ x1.toInt ∧ x1.toInt ≤ 1 ∧ 0 ≤ x3.toInt ∧ x3.toInt ≤ 969 ∧ (-1 : Int) ≤ (m.1 89 (x1).toNatClampNeg).toInt ∧ (m.1 89 (x1).toNatClampNeg).toInt ≤ 9 ∧ 0 ≤ x2.toInt ∧ x2.toInt ≤ 969 ∧ (-1 : Int) ≤ (m.1 89 (x1).toNatClampNeg).toInt ∧ (m.1 89 (x1).toNatClampNeg).toInt ≤ 9 ∧ 0 ≤ (0 : Int32).toInt ∧ (0 : Int32).toInt ≤ 30 ∧ 30 - (0 : Int32).toInt < (sm_fu : Int) ∧ 0 ≤ x2.toInt ∧ x2.toInt ≤ 99 + 29 * (0 : Int32).toInt by omega) hI Fr.refl
theorem zX12_meetsBy_32 (m0 : sm_S) : ∀ (n : Nat) (v1 : Int32) (v2 : Int32) (v3 : Int32) (m : sm_S), (0 ≤ v1.toInt ∧ v1.toInt ≤ 99 ∧ 0 ≤ v2.toInt ∧ v2.toInt ≤ 969 ∧ 0 ≤ v3.toInt ∧ v3.toInt ≤ 1023 ∧ 1023 - v3.toInt < (n : Int)) → zI m → Fr wX12_meetsBy m0 m → Sf (fun r => (((-2 : Int) ≤ r.1.toInt) ∧ (r.1.toInt ≤ 969)) ∧ zI r.2 ∧ Fr wX12_meetsBy m0 r.2) (fX12_meetsBy_32 n v1 v2 v3 m) := by
  intro n
  induction n with
  | zero =>
    intro v1 v2 v3 m hp hI hF
    exfalso
    omega
  | succ n ih =>
    intro v1 v2 v3 m hp hI hF
    have hnn : ((n + 1 : Nat) : Int) = (n : Int) + 1 := by omega
    have hfu := fuE
    unfold fX12_meetsBy_32
    refine s_lt (fun kh1 => ?_) (fun kh1 => ?_)
    · have kc2 := Ln2
      exact s_ret ⟨(show ((-2 : Int) ≤ (-2 : Int32).toInt) ∧ ((-2 : Int32).toInt ≤ 969) by omega), hI, hF⟩
    · have kc3 := L0
      refine s_bd (zX12_cornerOf (0 : Int32) (0 : Int32) v3 m (show 0 ≤ (0 : Int32).toInt ∧ (0 : Int32).toInt ≤ 1 ∧ 0 ≤ (0 : Int32).toInt ∧ (0 : Int32).toInt ≤ 99 ∧ 0 ≤ v3.toInt ∧ v3.toInt ≤ 969 by omega) hI) (fun r6 kr4 => ?_)
      obtain ⟨kp5, ki6, kf7⟩ := kr4
      replace kp5 : ((-1 : Int) ≤ r6.1.toInt) ∧ (r6.1.toInt ≤ 9) := kp5
      refine s_lt (fun kh8 => ?_) (fun kh8 => ?_)
      · have kc9 : (v3 + (1 : Int32)).toInt = (v3).toInt + 1 := a_addl L1 (by omega) (by omega)
        have kf10 : Fr wX12_meetsBy m0 r6.2 := Fr.trans hF kf7 rfl
        exact ih v1 v2 (v3 + (1 : Int32)) r6.2 (show 0 ≤ v1.toInt ∧ v1.toInt ≤ 99 ∧ 0 ≤ v2.toInt ∧ v2.toInt ≤ 969 ∧ 0 ≤ (v3 + (1 : Int32)).toInt ∧ (v3 + (1 : Int32)).toInt ≤ 1023 ∧ 1023 - (v3 + (1 : Int32)).toInt < (n : Int) by omega) ki6 kf10
      · have kc11 := L1
        refine s_bd (zX12_cornerOf (1 : Int32) v1 v3 r6.2 (show 0 ≤ (1 : Int32).toInt ∧ (1 : Int32).toInt ≤ 1 ∧ 0 ≤ v1.toInt ∧ v1.toInt ≤ 99 ∧ 0 ≤ v3.toInt ∧ v3.toInt ≤ 969 by omega) ki6) (fun r8 kr12 => ?_)
        obtain ⟨kp13, ki14, kf15⟩ := kr12
        replace kp13 : ((-1 : Int) ≤ r8.1.toInt) ∧ (r8.1.toInt ≤ 9) := kp13
        refine s_eq (fun kh16 => ?_) (fun kh16 => ?_)
        · have kf17 : Fr wX12_meetsBy m0 r6.2 := Fr.trans hF kf7 rfl
          have kf18 : Fr wX12_meetsBy m0 r8.2 := Fr.trans kf17 kf15 rfl
          exact s_ret ⟨(show ((-2 : Int) ≤ v3.toInt) ∧ (v3.toInt ≤ 969) by omega), ki14, kf18⟩
        · have kc19 : (v3 + (1 : Int32)).toInt = (v3).toInt + 1 := a_addl L1 (by omega) (by omega)
          have kf20 : Fr wX12_meetsBy m0 r6.2 := Fr.trans hF kf7 rfl
          have kf21 : Fr wX12_meetsBy m0 r8.2 := Fr.trans kf20 kf15 rfl
          exact ih v1 v2 (v3 + (1 : Int32)) r8.2 (show 0 ≤ v1.toInt ∧ v1.toInt ≤ 99 ∧ 0 ≤ v2.toInt ∧ v2.toInt ≤ 969 ∧ 0 ≤ (v3 + (1 : Int32)).toInt ∧ (v3 + (1 : Int32)).toInt ≤ 1023 ∧ 1023 - (v3 + (1 : Int32)).toInt < (n : Int) by omega) ki14 kf21
theorem zX12_meetsBy (x1 : Int32) (m : sm_S) (hp : 0 ≤ x1.toInt ∧ x1.toInt ≤ 99) (hI : zI m) : Sf (fun r => (((-2 : Int) ≤ r.1.toInt) ∧ (r.1.toInt ≤ 969)) ∧ zI r.2 ∧ Fr wX12_meetsBy m r.2) (fX12_meetsBy x1 m) := by
  have hfu := fuE
  unfold fX12_meetsBy
  have kc1 := L0
  refine s_bd (zX12_cornerOf (0 : Int32) (0 : Int32) (0 : Int32) m (show 0 ≤ (0 : Int32).toInt ∧ (0 : Int32).toInt ≤ 1 ∧ 0 ≤ (0 : Int32).toInt ∧ (0 : Int32).toInt ≤ 99 ∧ 0 ≤ (0 : Int32).toInt ∧ (0 : Int32).toInt ≤ 969 by omega) hI) (fun r2 kr2 => ?_)
  obtain ⟨kp3, ki4, kf5⟩ := kr2
  replace kp3 : ((-1 : Int) ≤ r2.1.toInt) ∧ (r2.1.toInt ≤ 9) := kp3
  have kc6 := L1
  refine s_bd (zX12_cornerOf (1 : Int32) x1 (0 : Int32) r2.2 (show 0 ≤ (1 : Int32).toInt ∧ (1 : Int32).toInt ≤ 1 ∧ 0 ≤ x1.toInt ∧ x1.toInt ≤ 99 ∧ 0 ≤ (0 : Int32).toInt ∧ (0 : Int32).toInt ≤ 969 by omega) ki4) (fun r4 kr7 => ?_)
  obtain ⟨kp8, ki9, kf10⟩ := kr7
  replace kp8 : ((-1 : Int) ≤ r4.1.toInt) ∧ (r4.1.toInt ≤ 9) := kp8
  have kc11 : 0 ≤ (r2.2.1 72 39).toInt ∧ (r2.2.1 72 39).toInt ≤ 969 := ki4.1 72 39
  have kc12 : 0 ≤ (r4.2.1 72 39).toInt ∧ (r4.2.1 72 39).toInt ≤ 969 := ki9.1 72 39
  have kc13 : (((r2.2.1 72 39)).toInt < ((r4.2.1 72 39)).toInt ∧ (if (r2.2.1 72 39) < (r4.2.1 72 39) then (r4.2.1 72 39) else (r2.2.1 72 39)).toInt = ((r4.2.1 72 39)).toInt) ∨ (((r4.2.1 72 39)).toInt ≤ ((r2.2.1 72 39)).toInt ∧ (if (r2.2.1 72 39) < (r4.2.1 72 39) then (r4.2.1 72 39) else (r2.2.1 72 39)).toInt = ((r2.2.1 72 39)).toInt) := a_ilt
  have kf14 : Fr wX12_meetsBy m r2.2 := Fr.trans Fr.refl kf5 rfl
  have kf15 : Fr wX12_meetsBy m r4.2 := Fr.trans kf14 kf10 rfl
  exact zX12_meetsBy_32 m sm_fu x1 (if (r2.2.1 72 39) < (r4.2.1 72 39) then (r4.2.1 72 39) else (r2.2.1 72 39)) (0 : Int32) r4.2 (show 0 ≤ x1.toInt ∧ x1.toInt ≤ 99 ∧ 0 ≤ (if (r2.2.1 72 39) < (r4.2.1 72 39) then (r4.2.1 72 39) else (r2.2.1 72 39)).toInt ∧ (if (r2.2.1 72 39) < (r4.2.1 72 39) then (r4.2.1 72 39) else (r2.2.1 72 39)).toInt ≤ 969 ∧ 0 ≤ (0 : Int32).toInt ∧ (0 : Int32).toInt ≤ 1023 ∧ 1023 - (0 : Int32).toInt < (sm_fu : Int) by omega) ki9 kf15
theorem zX12_meets (x1 : Int32) (m : sm_S) (hI : zI m) : Sf (fun r => (((-3 : Int) ≤ r.1.toInt) ∧ (r.1.toInt ≤ 969)) ∧ zI r.2 ∧ Fr wX12_meets m r.2) (fX12_meets x1 m) := by
  have hfu := fuE
  unfold fX12_meets
  have kc1 : (x1).toInt64.toInt = (x1).toInt := Int32.toInt_toInt64 _
  have kc2 := LL0
  have kc3 := LL99
  have kc4 := L0
  have ki5 : zI (sm_w1 m 72 0 (0 : Int32)) := zI.w hI rfl (show 0 ≤ ((0 : Int32)).toInt ∧ ((0 : Int32)).toInt ≤ 1 by omega)
  refine s_bd (zX12_in (x1).toInt64 (0 : Int64) (99 : Int64) (sm_w1 m 72 0 (0 : Int32)) (show (-1 : Int) ≤ (0 : Int64).toInt ∧ (0 : Int64).toInt ≤ 48 ∧ (-1 : Int) ≤ (99 : Int64).toInt ∧ (99 : Int64).toInt ≤ 9999 by omega) ki5) (fun r2 kr6 => ?_)
  replace kr6 : (0 ≤ r2.toInt) ∧ (r2.toInt ≤ 1) ∧ ((r2.toInt = 0 ∧ ((x1).toInt64.toInt < (0 : Int64).toInt ∨ (99 : Int64).toInt < (x1).toInt64.toInt)) ∨ (r2.toInt = 1 ∧ (0 : Int64).toInt ≤ (x1).toInt64.toInt ∧ (x1).toInt64.toInt ≤ (99 : Int64).toInt)) := kr6
  refine s_eq (fun kh7 => ?_) (fun kh7 => ?_)
  · have kc8 := Ln1
    have kf9 : Fr wX12_meets m (sm_w1 m 72 0 (0 : Int32)) := Fr.w Fr.refl rfl
    exact s_ret ⟨(show ((-3 : Int) ≤ (-1 : Int32).toInt) ∧ ((-1 : Int32).toInt ≤ 969) by omega), ki5, kf9⟩
  · have kc10 : (-1 : Int) ≤ (m.1 89 0).toInt ∧ (m.1 89 0).toInt ≤ 9 := hI.1 89 0
    refine s_lt (fun kh11 => ?_) (fun kh11 => ?_)
    · have kc12 := Ln3
      have kf13 : Fr wX12_meets m (sm_w1 m 72 0 (0 : Int32)) := Fr.w Fr.refl rfl
      exact s_ret ⟨(show ((-3 : Int) ≤ (-3 : Int32).toInt) ∧ ((-3 : Int32).toInt ≤ 969) by omega), ki5, kf13⟩
    · have kc14 : (-1 : Int) ≤ (m.1 89 1).toInt ∧ (m.1 89 1).toInt ≤ 9 := hI.1 89 1
      refine s_le (fun kh15 => ?_) (fun kh15 => ?_)
      · refine s_bd (zX12_meetsBy x1 (sm_w1 m 72 0 (0 : Int32)) (show 0 ≤ x1.toInt ∧ x1.toInt ≤ 99 by omega) ki5) (fun r4 kr16 => ?_)
        obtain ⟨kp17, ki18, kf19⟩ := kr16
        replace kp17 : ((-2 : Int) ≤ r4.1.toInt) ∧ (r4.1.toInt ≤ 969) := kp17
        refine s_lt (fun kh20 => ?_) (fun kh20 => ?_)
        · have kf21 : Fr wX12_meets m (sm_w1 m 72 0 (0 : Int32)) := Fr.w Fr.refl rfl
          have kf22 : Fr wX12_meets m r4.2 := Fr.trans kf21 kf19 rfl
          exact s_ret ⟨(show ((-3 : Int) ≤ r4.1.toInt) ∧ (r4.1.toInt ≤ 969) by omega), ki18, kf22⟩
        · have ki23 : zI (sm_w1 r4.2 72 1 (0 : Int32)) := zI.w ki18 rfl (show 0 ≤ ((0 : Int32)).toInt ∧ ((0 : Int32)).toInt ≤ 24 by omega)
          refine s_bd (zX12_cornerOf (0 : Int32) (0 : Int32) (r4.1) (sm_w1 r4.2 72 1 (0 : Int32)) (show 0 ≤ (0 : Int32).toInt ∧ (0 : Int32).toInt ≤ 1 ∧ 0 ≤ (0 : Int32).toInt ∧ (0 : Int32).toInt ≤ 99 ∧ 0 ≤ (r4.1).toInt ∧ (r4.1).toInt ≤ 969 by omega) ki23) (fun r6 kr24 => ?_)
          obtain ⟨kp25, ki26, kf27⟩ := kr24
          replace kp25 : ((-1 : Int) ≤ r6.1.toInt) ∧ (r6.1.toInt ≤ 9) := kp25
          have kc28 : 0 ≤ (r6.2.1 72 1).toInt ∧ (r6.2.1 72 1).toInt ≤ 24 := ki26.1 72 1
          have kc29 : (r6.2.1 72 1).toInt = ((sm_w1 r4.2 72 1 (0 : Int32)).1 72 1).toInt := congrArg Int32.toInt (kf27 72 1 rfl)
          have kc30 : 0 ≤ ((sm_w1 r4.2 72 1 (0 : Int32)).1 72 1).toInt ∧ ((sm_w1 r4.2 72 1 (0 : Int32)).1 72 1).toInt ≤ 24 := ki23.1 72 1
          have kc31 : ((sm_w1 r4.2 72 1 (0 : Int32)).1 72 1).toInt = ((0 : Int32)).toInt := rfl
          refine s_bd (zX12_enters (r6.1) r6.2 (show (r6.2.1 72 1).toInt ≤ 23 by omega) ki26) (fun m8 kr32 => ?_)
          obtain ⟨kp33, ki34, kf35⟩ := kr32
          replace kp33 : ((m8.1 72 1).toInt = (r6.2.1 72 1).toInt + 1) := kp33
          have kc36 : 0 ≤ (m8.1 72 1).toInt ∧ (m8.1 72 1).toInt ≤ 24 := ki34.1 72 1
          have kf37 : Fr wX12_meets m (sm_w1 m 72 0 (0 : Int32)) := Fr.w Fr.refl rfl
          have kf38 : Fr wX12_meets m r4.2 := Fr.trans kf37 kf19 rfl
          have kf39 : Fr wX12_meets m (sm_w1 r4.2 72 1 (0 : Int32)) := Fr.w kf38 rfl
          have kf40 : Fr wX12_meets m r6.2 := Fr.trans kf39 kf27 rfl
          have kf41 : Fr wX12_meets m m8 := Fr.trans kf40 kf35 rfl
          exact s_ret ⟨(show ((-3 : Int) ≤ r4.1.toInt) ∧ (r4.1.toInt ≤ 969) by omega), ki34, kf41⟩
      · have kc42 := Ln3
        have kf43 : Fr wX12_meets m (sm_w1 m 72 0 (0 : Int32)) := Fr.w Fr.refl rfl
        exact s_ret ⟨(show ((-3 : Int) ≤ (-3 : Int32).toInt) ∧ ((-3 : Int32).toInt ≤ 969) by omega), ki5, kf43⟩
theorem zX12_apart_28 (m0 : sm_S) : ∀ (n : Nat) (v1 : Int32) (m : sm_S), (0 ≤ v1.toInt ∧ v1.toInt ≤ 100 ∧ 100 - v1.toInt < (n : Int)) → zI m → Fr wX12_apart m0 m → Sf (fun r => (((-3 : Int) ≤ r.1.toInt) ∧ (r.1.toInt ≤ 99)) ∧ zI r.2 ∧ Fr wX12_apart m0 r.2) (fX12_apart_28 n v1 m) := by
  intro n
  induction n with
  | zero =>
    intro v1 m hp hI hF
    exfalso
    omega
  | succ n ih =>
    intro v1 m hp hI hF
    have hnn : ((n + 1 : Nat) : Int) = (n : Int) + 1 := by omega
    have hfu := fuE
    unfold fX12_apart_28
    have kc1 := L99
    refine s_lt (fun kh2 => ?_) (fun kh2 => ?_)
    · have kc3 := Ln2
      exact s_ret ⟨(show ((-3 : Int) ≤ (-2 : Int32).toInt) ∧ ((-2 : Int32).toInt ≤ 99) by omega), hI, hF⟩
    · refine s_bd (zX12_meetsBy v1 m (show 0 ≤ v1.toInt ∧ v1.toInt ≤ 99 by omega) hI) (fun r2 kr4 => ?_)
      obtain ⟨kp5, ki6, kf7⟩ := kr4
      replace kp5 : ((-2 : Int) ≤ r2.1.toInt) ∧ (r2.1.toInt ≤ 969) := kp5
      have kc8 := L0
      refine s_le (fun kh9 => ?_) (fun kh9 => ?_)
      · have kc10 : (v1 + (1 : Int32)).toInt = (v1).toInt + 1 := a_addl L1 (by omega) (by omega)
        have kf11 : Fr wX12_apart m0 r2.2 := Fr.trans hF kf7 rfl
        exact ih (v1 + (1 : Int32)) r2.2 (show 0 ≤ (v1 + (1 : Int32)).toInt ∧ (v1 + (1 : Int32)).toInt ≤ 100 ∧ 100 - (v1 + (1 : Int32)).toInt < (n : Int) by omega) ki6 kf11
      · have kf12 : Fr wX12_apart m0 r2.2 := Fr.trans hF kf7 rfl
        exact s_ret ⟨(show ((-3 : Int) ≤ v1.toInt) ∧ (v1.toInt ≤ 99) by omega), ki6, kf12⟩
theorem zX12_apart (m : sm_S) (hI : zI m) : Sf (fun r => (((-3 : Int) ≤ r.1.toInt) ∧ (r.1.toInt ≤ 99)) ∧ zI r.2 ∧ Fr wX12_apart m r.2) (fX12_apart m) := by
  have hfu := fuE
  unfold fX12_apart
  have kc1 : (-1 : Int) ≤ (m.1 89 0).toInt ∧ (m.1 89 0).toInt ≤ 9 := hI.1 89 0
  have kc2 := L0
  refine s_lt (fun kh3 => ?_) (fun kh3 => ?_)
  · have kc4 := Ln3
    have ki5 : zI (sm_w1 m 72 0 (0 : Int32)) := zI.w hI rfl (show 0 ≤ ((0 : Int32)).toInt ∧ ((0 : Int32)).toInt ≤ 1 by omega)
    have kf6 : Fr wX12_apart m (sm_w1 m 72 0 (0 : Int32)) := Fr.w Fr.refl rfl
    exact s_ret ⟨(show ((-3 : Int) ≤ (-3 : Int32).toInt) ∧ ((-3 : Int32).toInt ≤ 99) by omega), ki5, kf6⟩
  · have kc7 : (-1 : Int) ≤ (m.1 89 1).toInt ∧ (m.1 89 1).toInt ≤ 9 := hI.1 89 1
    refine s_le (fun kh8 => ?_) (fun kh8 => ?_)
    · have ki9 : zI (sm_w1 m 72 0 (0 : Int32)) := zI.w hI rfl (show 0 ≤ ((0 : Int32)).toInt ∧ ((0 : Int32)).toInt ≤ 1 by omega)
      have kf10 : Fr wX12_apart m (sm_w1 m 72 0 (0 : Int32)) := Fr.w Fr.refl rfl
      exact zX12_apart_28 m sm_fu (0 : Int32) (sm_w1 m 72 0 (0 : Int32)) (show 0 ≤ (0 : Int32).toInt ∧ (0 : Int32).toInt ≤ 100 ∧ 100 - (0 : Int32).toInt < (sm_fu : Int) by omega) ki9 kf10
    · have kc11 := Ln3
      have ki12 : zI (sm_w1 m 72 0 (0 : Int32)) := zI.w hI rfl (show 0 ≤ ((0 : Int32)).toInt ∧ ((0 : Int32)).toInt ≤ 1 by omega)
      have kf13 : Fr wX12_apart m (sm_w1 m 72 0 (0 : Int32)) := Fr.w Fr.refl rfl
      exact s_ret ⟨(show ((-3 : Int) ≤ (-3 : Int32).toInt) ∧ ((-3 : Int32).toInt ≤ 99) by omega), ki12, kf13⟩
theorem zX12_sleeps (m : sm_S) (hI : zI m) : Sf (fun r => ((0 ≤ r.1.toInt) ∧ (r.1.toInt ≤ 1)) ∧ zI r.2 ∧ Fr wX12_sleeps m r.2) (fX12_sleeps m) := by
  have hfu := fuE
  unfold fX12_sleeps
  have kc1 : 0 ≤ (m.1 72 18).toInt ∧ (m.1 72 18).toInt ≤ 9999 := hI.1 72 18
  refine s_bd (zX12_dayOf (m.1 72 18) m (show 0 ≤ (m.1 72 18).toInt ∧ (m.1 72 18).toInt ≤ 9999 by omega) hI) (fun r2 kr2 => ?_)
  replace kr2 : (0 ≤ r2.toInt) ∧ (r2.toInt ≤ 166) := kr2
  have kc3 := L60
  have kc4 : (r2 + (1 : Int32)).toInt = (r2).toInt + 1 := a_addl L1 (by omega) (by omega)
  have kc5 : ((60 : Int32) * (r2 + (1 : Int32))).toInt = 60 * ((r2 + (1 : Int32))).toInt := a_mul L60 rfl (by omega) (by omega)
  have kc6 : 0 ≤ (m.1 72 16).toInt ∧ (m.1 72 16).toInt ≤ 9999 := hI.1 72 16
  refine s_le (fun kh7 => ?_) (fun kh7 => ?_)
  · have kc8 := L1
    have ki9 : zI (sm_w1 m 72 18 ((60 : Int32) * (r2 + (1 : Int32)))) := zI.w hI rfl (show 0 ≤ (((60 : Int32) * (r2 + (1 : Int32)))).toInt ∧ (((60 : Int32) * (r2 + (1 : Int32)))).toInt ≤ 9999 by omega)
    have kf10 : Fr wX12_sleeps m (sm_w1 m 72 18 ((60 : Int32) * (r2 + (1 : Int32)))) := Fr.w Fr.refl rfl
    exact s_ret ⟨(show (0 ≤ (1 : Int32).toInt) ∧ ((1 : Int32).toInt ≤ 1) by omega), ki9, kf10⟩
  · have kc11 := L0
    have kc12 : (((m.1 72 18)).toInt < ((m.1 72 16)).toInt ∧ (if (m.1 72 18) < (m.1 72 16) then (m.1 72 16) else (m.1 72 18)).toInt = ((m.1 72 16)).toInt) ∨ (((m.1 72 16)).toInt ≤ ((m.1 72 18)).toInt ∧ (if (m.1 72 18) < (m.1 72 16) then (m.1 72 16) else (m.1 72 18)).toInt = ((m.1 72 18)).toInt) := a_ilt
    have ki13 : zI (sm_w1 m 72 18 (if (m.1 72 18) < (m.1 72 16) then (m.1 72 16) else (m.1 72 18))) := zI.w hI rfl (show 0 ≤ ((if (m.1 72 18) < (m.1 72 16) then (m.1 72 16) else (m.1 72 18))).toInt ∧ ((if (m.1 72 18) < (m.1 72 16) then (m.1 72 16) else (m.1 72 18))).toInt ≤ 9999 by omega)
    have kf14 : Fr wX12_sleeps m (sm_w1 m 72 18 (if (m.1 72 18) < (m.1 72 16) then (m.1 72 16) else (m.1 72 18))) := Fr.w Fr.refl rfl
    exact s_ret ⟨(show (0 ≤ (0 : Int32).toInt) ∧ ((0 : Int32).toInt ≤ 1) by omega), ki13, kf14⟩
/-- the hedge i could be walked now, as far as time goes -/
def dW (m : sm_S) (i : Nat) : Prop := ((m.1 72 17).toInt = (m.1 76 i).toInt ∧ (m.1 72 18).toInt + (m.1 78 i).toInt ≤ (m.1 72 16).toInt) ∨ ((m.1 72 17).toInt ≠ (m.1 76 i).toInt ∧ (m.1 72 18).toInt + (m.1 78 i).toInt + (m.1 82 i).toInt ≤ (m.1 72 16).toInt)
def cB (m : sm_S) (x : Int32) : Prop := ∀ i : Nat, i < 32 → bt x i = true → (i : Int) < (m.1 72 6).toInt ∧ dW m i
theorem s_self {α : Type} {Q : α → Prop} {o : Option α} (h : Sf Q o) : Sf (fun r => Q r ∧ o = some r) o := by
  obtain ⟨r, e, hr⟩ := h
  exact ⟨r, e, hr, e⟩
theorem zX12_has2 (x1 x2 : Int32) (m : sm_S) (hp : 0 ≤ x2.toInt ∧ x2.toInt ≤ 13) : Sf (fun r => (0 ≤ r.toInt ∧ r.toInt ≤ 1) ∧ ((r.toInt = 0 ∧ bt x1 x2.toNatClampNeg = false) ∨ (r.toInt = 1 ∧ bt x1 x2.toNatClampNeg = true))) (fX12_has x1 x2 m) := by
  have hb := b_has (x := x1) (b := x2) (by omega) (by omega)
  have l0 := L0
  have l1 := L1
  unfold fX12_has
  refine s_if (fun q => s_ret ⟨by omega, Or.inr ⟨l1, hb.mp q⟩⟩) (fun q => s_ret ⟨by omega, Or.inl ⟨l0, ?_⟩⟩)
  cases h : bt x1 x2.toNatClampNeg with
  | false => rfl
  | true => exact absurd (hb.mpr h) q
theorem has_f {r : Int32} {b : Bool} (h : (0 ≤ r.toInt ∧ r.toInt ≤ 1) ∧ ((r.toInt = 0 ∧ b = false) ∨ (r.toInt = 1 ∧ b = true))) (hr : r.toInt = 0) : b = false := by
  rcases h.2 with q | q
  · exact q.2
  · omega
theorem has_t {r : Int32} {b : Bool} (h : (0 ≤ r.toInt ∧ r.toInt ≤ 1) ∧ ((r.toInt = 0 ∧ b = false) ∨ (r.toInt = 1 ∧ b = true))) (hr : r.toInt ≠ 0) : b = true := by
  rcases h.2 with q | q
  · omega
  · exact q.2
theorem zX12_canNow2_4 : ∀ (n : Nat) (v1 : Int32) (v2 : Int32) (m : sm_S), (0 ≤ v1.toInt ∧ v1.toInt ≤ 16383 ∧ 0 ≤ v2.toInt ∧ v2.toInt ≤ 14 ∧ 14 - v2.toInt < (n : Int)) → cB m v1 → zI m → Sf (fun r => ((0 ≤ r.toInt) ∧ (r.toInt ≤ 16383)) ∧ cB m r) (fX12_canNow_4 n v1 v2 m) := by
  intro n
  induction n with
  | zero => intro v1 v2 m hp hB hI; omega
  | succ n ih =>
    intro v1 v2 m hp hB hI
    have hnn : ((n + 1 : Nat) : Int) = (n : Int) + 1 := by omega
    have kc1 : 0 ≤ (m.1 72 6).toInt ∧ (m.1 72 6).toInt ≤ 14 := hI.1 72 6
    have l0 := L0
    unfold fX12_canNow_4
    refine s_le (fun h1 => s_ret ⟨⟨by omega, by omega⟩, hB⟩) (fun h1 => ?_)
    have e2 := a_tn (x := v2) (by omega)
    have kc23 : (v2 + (1 : Int32)).toInt = (v2).toInt + 1 := a_addl L1 (by omega) (by omega)
    refine s_bd (zX12_whyNot v2 m (by omega) hI) (fun r hr => ?_)
    refine s_eq (fun h2 => ?_) (fun h2 => ?_)
    · have kc21 := a_shl (x := v2) (p := 8192) 13 (by decide) (by decide) (by omega) (by omega)
      have kc22 := a_or (x := v1) (y := (1 : Int32) <<< (v2 &&& 31)) (p := 16384) 14 (by decide) (by decide) (by omega) (by omega) (by omega) (by omega)
      refine ih _ _ m (by omega) (fun i hi hb => ?_) hI
      rw [b_or, b_pow (by omega) (by omega) hi] at hb
      cases h3 : bt v1 i with
      | true => exact hB i hi h3
      | false =>
        rw [h3, Bool.false_or] at hb
        have e : i = v2.toNatClampNeg := of_decide_eq_true hb
        subst e
        refine ⟨by omega, ?_⟩
        rcases hr.2.2 with q | q
        · omega
        · exact q
    · have kc24 := a_or (x := v1) (y := (0 : Int32)) (p := 16384) 14 (by decide) (by decide) (by omega) (by omega) (by omega) (by omega)
      refine ih _ _ m (by omega) (fun i hi hb => ?_) hI
      rw [b_or, b_0, Bool.or_false] at hb
      exact hB i hi hb
theorem zX12_canNow2 (m : sm_S) (hI : zI m) : Sf (fun r => (((0 ≤ r.toInt) ∧ (r.toInt ≤ 16383)) ∧ cB m r) ∧ fX12_canNow m = some r) (fX12_canNow m) := by
  refine s_self ?_
  have hfu := fuE
  have l0 := L0
  unfold fX12_canNow
  exact zX12_canNow2_4 sm_fu (0 : Int32) (0 : Int32) m (by omega) (fun i hi hb => by rw [b_0] at hb; cases hb) hI
def sB (m : sm_S) (v6 v7 v8 : Int32) : Prop := cB m v6 ∧ v6.toInt ≠ 0 ∧ (0 ≤ v7.toInt → bt v6 v7.toNatClampNeg = true) ∧ (v7.toInt < 0 → ∀ i : Nat, (i : Int) < v8.toInt → bt v6 i = false)
theorem sB_skip {m : sm_S} {v6 v7 v8 w : Int32} (h : sB m v6 v7 v8) (e : w.toInt = v8.toInt + 1) (hb : bt v6 v8.toNatClampNeg = false) (h8 : 0 ≤ v8.toInt) : sB m v6 v7 w := by
  have e8 := a_tn h8
  refine ⟨h.1, h.2.1, h.2.2.1, fun h7 i hi => ?_⟩
  by_cases q : (i : Int) < v8.toInt
  · exact h.2.2.2 h7 i q
  · rw [show i = v8.toNatClampNeg by omega]; exact hb
theorem sB_keep {m : sm_S} {v6 v7 v8 w : Int32} (h : sB m v6 v7 v8) (h7 : 0 ≤ v7.toInt) : sB m v6 v7 w := ⟨h.1, h.2.1, h.2.2.1, fun q => absurd q (by omega)⟩
theorem sB_take {m : sm_S} {v6 v7 v8 w : Int32} (h : sB m v6 v7 v8) (hb : bt v6 v8.toNatClampNeg = true) (h8 : 0 ≤ v8.toInt) : sB m v6 v8 w := ⟨h.1, h.2.1, fun _ => hb, fun q => absurd q (by omega)⟩
theorem sB_end {m : sm_S} {v6 v7 v8 : Int32} (h : sB m v6 v7 v8) (hl : (m.1 72 6).toInt ≤ v8.toInt) (h7 : v7.toInt ≤ 13) : 0 ≤ v7.toInt ∧ v7.toInt < (m.1 72 6).toInt ∧ dW m v7.toNatClampNeg := by
  by_cases q : 0 ≤ v7.toInt
  · have e := a_tn q
    have := h.1 v7.toNatClampNeg (by omega) (h.2.2.1 q)
    exact ⟨q, by omega, this.2⟩
  · exfalso
    apply h.2.1
    have : v6 = 0 := b_ext (fun i hi => by
      rw [b_0]
      cases hb : bt v6 i with
      | false => rfl
      | true =>
        have q1 := h.1 i hi hb
        rw [h.2.2.2 (by omega) i (by omega)] at hb
        cases hb)
    rw [this]; exact L0
theorem zX12_season_99 (m0 : sm_S) (k59 : Int32 → Int32 → Int32 → Int32 → Int32 → sm_S → Option (Int32 × sm_S)) (Nk59 : Nat) (hk59 : ∀ (v1 : Int32) (v2 : Int32) (v3 : Int32) (v4 : Int32) (v5 : Int32) (m : sm_S), (0 ≤ v1.toInt ∧ v1.toInt ≤ 60 ∧ 0 ≤ v4.toInt ∧ v4.toInt ≤ 1 ∧ 0 ≤ v5.toInt ∧ v5.toInt ≤ 61 ∧ 61 - v5.toInt < (Nk59 : Int)) → zI m → Fr wX12_season m0 m → Sf (fun r => (True) ∧ zI r.2 ∧ Fr wX12_season m0 r.2) (k59 v1 v2 v3 v4 v5 m)) (k70 : Int32 → Int32 → Int32 → Int32 → sm_S → Option (Int32 × sm_S)) (Nk70 : Nat) (hk70 : ∀ (v1 : Int32) (v2 : Int32) (v3 : Int32) (v5 : Int32) (m : sm_S), (1 ≤ v1.toInt ∧ v1.toInt ≤ 60 ∧ 0 ≤ v5.toInt ∧ v5.toInt ≤ 60 ∧ 10000 - (m.1 72 18).toInt < (Nk70 : Int) ∧ 61 - v5.toInt ≤ (Nk59 : Int)) → zI m → Fr wX12_season m0 m → Sf (fun r => (True) ∧ zI r.2 ∧ Fr wX12_season m0 r.2) (k70 v1 v2 v3 v5 m)) : ∀ (n : Nat) (v1 : Int32) (v2 : Int32) (v3 : Int32) (v5 : Int32) (v6 : Int32) (v7 : Int32) (v8 : Int32) (m : sm_S), (1 ≤ v1.toInt ∧ v1.toInt ≤ 60 ∧ 0 ≤ v5.toInt ∧ v5.toInt ≤ 60 ∧ 0 ≤ v6.toInt ∧ v6.toInt ≤ 16383 ∧ (-1 : Int) ≤ v7.toInt ∧ v7.toInt ≤ 13 ∧ 0 ≤ v8.toInt ∧ v8.toInt ≤ 14 ∧ 14 - v8.toInt < (n : Int) ∧ 10000 - (m.1 72 18).toInt ≤ (Nk70 : Int) ∧ 61 - v5.toInt ≤ (Nk59 : Int)) → sB m v6 v7 v8 → zI m → Fr wX12_season m0 m → Sf (fun r => (True) ∧ zI r.2 ∧ Fr wX12_season m0 r.2) (fX12_season_99 k70 k59 n v1 v2 v3 v5 v6 v7 v8 m) := by
  intro n
  induction n with
  | zero =>
    intro v1 v2 v3 v5 v6 v7 v8 m hp hB hI hF
    have kc1 : 0 ≤ (m.1 72 18).toInt ∧ (m.1 72 18).toInt ≤ 9999 := hI.1 72 18
    exfalso
    omega
  | succ n ih =>
    intro v1 v2 v3 v5 v6 v7 v8 m hp hB hI hF
    have hnn : ((n + 1 : Nat) : Int) = (n : Int) + 1 := by omega
    have hfu := fuE
    have kc1 : 0 ≤ (m.1 72 18).toInt ∧ (m.1 72 18).toInt ≤ 9999 := hI.1 72 18
    unfold fX12_season_99
    have kc2 : 0 ≤ (m.1 72 6).toInt ∧ (m.1 72 6).toInt ≤ 14 := hI.1 72 6
    have kc3 : 0 ≤ (m.1 72 25).toInt ∧ (m.1 72 25).toInt ≤ 14 := hI.1 72 25
    have kc4 := zI.le hI
    refine s_le (fun kh5 => ?_) (fun kh5 => ?_)
    · have kc6 : (-1 : Int) ≤ (m.1 76 (v7).toNatClampNeg).toInt ∧ (m.1 76 (v7).toNatClampNeg).toInt ≤ 9 := hI.1 76 (v7).toNatClampNeg
      have kc7 : (-1 : Int) ≤ (m.1 78 (v7).toNatClampNeg).toInt ∧ (m.1 78 (v7).toNatClampNeg).toInt ≤ 20 := hI.1 78 (v7).toNatClampNeg
      have kc8 : (-1 : Int) ≤ (m.1 82 (v7).toNatClampNeg).toInt ∧ (m.1 82 (v7).toNatClampNeg).toInt ≤ 9 := hI.1 82 (v7).toNatClampNeg
      have kc9 : 0 ≤ (m.1 72 17).toInt ∧ (m.1 72 17).toInt ≤ 9 := hI.1 72 17
      have kEnd := sB_end hB (by omega) (by omega)
      have kDW : ((m.1 72 17).toInt = (m.1 76 v7.toNatClampNeg).toInt ∧ (m.1 72 18).toInt + (m.1 78 v7.toNatClampNeg).toInt ≤ (m.1 72 16).toInt) ∨ ((m.1 72 17).toInt ≠ (m.1 76 v7.toNatClampNeg).toInt ∧ (m.1 72 18).toInt + (m.1 78 v7.toNatClampNeg).toInt + (m.1 82 v7.toNatClampNeg).toInt ≤ (m.1 72 16).toInt) := kEnd.2.2
      have kFr : 0 ≤ (m.1 72 16).toInt ∧ (m.1 72 16).toInt ≤ 9999 := hI.1 72 16
      refine s_bd (zX12_walks v7 m (show 0 ≤ v7.toInt ∧ v7.toInt ≤ 13 ∧ v7.toInt < (m.1 72 6).toInt ∧ (((m.1 72 17).toInt = (m.1 76 v7.toNatClampNeg).toInt ∧ (m.1 72 18).toInt + (m.1 78 v7.toNatClampNeg).toInt ≤ 9999) ∨ ((m.1 72 17).toInt ≠ (m.1 76 v7.toNatClampNeg).toInt ∧ (m.1 72 18).toInt + (m.1 78 v7.toNatClampNeg).toInt + (m.1 82 v7.toNatClampNeg).toInt ≤ 9999)) by omega) hI) (fun r26 kr10 => ?_)
      obtain ⟨kp11, ki12, kf13⟩ := kr10
      replace kp11 : (1 ≤ r26.1.toInt) ∧ (r26.1.toInt ≤ 29) ∧ ((r26.2.1 72 18).toInt = (m.1 72 18).toInt + r26.1.toInt) := kp11
      have kc14 : 0 ≤ (r26.2.1 72 18).toInt ∧ (r26.2.1 72 18).toInt ≤ 9999 := ki12.1 72 18
      have kx15 : 0 ≤ (v7).toInt ∧ (v7).toInt < (14 : Int) := by omega
      refine s_ix kx15 ?_
      have kc16 : (-1 : Int) ≤ (r26.2.1 81 (v7).toNatClampNeg).toInt ∧ (r26.2.1 81 (v7).toNatClampNeg).toInt ≤ 9 := ki12.1 81 (v7).toNatClampNeg
      have kc17 : (r26.2.1 81 (v7).toNatClampNeg).toInt = (m.1 81 (v7).toNatClampNeg).toInt := congrArg Int32.toInt (kf13 81 (v7).toNatClampNeg rfl)
      have kc18 : (-1 : Int) ≤ (m.1 81 (v7).toNatClampNeg).toInt ∧ (m.1 81 (v7).toNatClampNeg).toInt ≤ 9 := hI.1 81 (v7).toNatClampNeg
      have kf19 : Fr wX12_season m0 r26.2 := Fr.trans hF kf13 rfl
      exact hk70 v1 (v2 + (1 : Int32)) (v3 + (r26.2.1 81 (v7).toNatClampNeg)) v5 r26.2 (show 1 ≤ v1.toInt ∧ v1.toInt ≤ 60 ∧ 0 ≤ v5.toInt ∧ v5.toInt ≤ 60 ∧ 10000 - (r26.2.1 72 18).toInt < (Nk70 : Int) ∧ 61 - v5.toInt ≤ (Nk59 : Int) by omega) ki12 kf19
    · refine s_bd (zX12_has2 v6 v8 m (by omega)) (fun r29 kHAS => ?_)
      have kr20 : (0 ≤ r29.toInt) ∧ (r29.toInt ≤ 1) := kHAS.1
      have kc21 := L0
      refine s_eq (fun kh22 => ?_) (fun kh22 => ?_)
      · have kc23 : (v8 + (1 : Int32)).toInt = (v8).toInt + 1 := a_addl L1 (by omega) (by omega)
        exact ih v1 v2 v3 v5 v6 v7 (v8 + (1 : Int32)) m (show 1 ≤ v1.toInt ∧ v1.toInt ≤ 60 ∧ 0 ≤ v5.toInt ∧ v5.toInt ≤ 60 ∧ 0 ≤ v6.toInt ∧ v6.toInt ≤ 16383 ∧ (-1 : Int) ≤ v7.toInt ∧ v7.toInt ≤ 13 ∧ 0 ≤ (v8 + (1 : Int32)).toInt ∧ (v8 + (1 : Int32)).toInt ≤ 14 ∧ 14 - (v8 + (1 : Int32)).toInt < (n : Int) ∧ 10000 - (m.1 72 18).toInt ≤ (Nk70 : Int) ∧ 61 - v5.toInt ≤ (Nk59 : Int) by omega) (sB_skip hB (by omega) (has_f kHAS (by omega)) (by omega)) hI hF
      · refine s_lt (fun kh24 => ?_) (fun kh24 => ?_)
        · have kc25 : (v8 + (1 : Int32)).toInt = (v8).toInt + 1 := a_addl L1 (by omega) (by omega)
          exact ih v1 v2 v3 v5 v6 v8 (v8 + (1 : Int32)) m (show 1 ≤ v1.toInt ∧ v1.toInt ≤ 60 ∧ 0 ≤ v5.toInt ∧ v5.toInt ≤ 60 ∧ 0 ≤ v6.toInt ∧ v6.toInt ≤ 16383 ∧ (-1 : Int) ≤ v8.toInt ∧ v8.toInt ≤ 13 ∧ 0 ≤ (v8 + (1 : Int32)).toInt ∧ (v8 + (1 : Int32)).toInt ≤ 14 ∧ 14 - (v8 + (1 : Int32)).toInt < (n : Int) ∧ 10000 - (m.1 72 18).toInt ≤ (Nk70 : Int) ∧ 61 - v5.toInt ≤ (Nk59 : Int) by omega) (sB_take hB (has_t kHAS (by omega)) (by omega)) hI hF
        · have kx26 : 0 ≤ (v8).toInt ∧ (v8).toInt < (14 : Int) := by omega
          refine s_ix kx26 ?_
          have kx27 : 0 ≤ (v7).toInt ∧ (v7).toInt < (14 : Int) := by omega
          refine s_ix kx27 ?_
          have kc28 : (-1 : Int) ≤ (m.1 81 (v8).toNatClampNeg).toInt ∧ (m.1 81 (v8).toNatClampNeg).toInt ≤ 9 := hI.1 81 (v8).toNatClampNeg
          have kc29 : (-1 : Int) ≤ (m.1 81 (v7).toNatClampNeg).toInt ∧ (m.1 81 (v7).toNatClampNeg).toInt ≤ 9 := hI.1 81 (v7).toNatClampNeg
          refine s_le (fun kh30 => ?_) (fun kh30 => ?_)
          · have kc31 : (v8 + (1 : Int32)).toInt = (v8).toInt + 1 := a_addl L1 (by omega) (by omega)
            exact ih v1 v2 v3 v5 v6 v7 (v8 + (1 : Int32)) m (show 1 ≤ v1.toInt ∧ v1.toInt ≤ 60 ∧ 0 ≤ v5.toInt ∧ v5.toInt ≤ 60 ∧ 0 ≤ v6.toInt ∧ v6.toInt ≤ 16383 ∧ (-1 : Int) ≤ v7.toInt ∧ v7.toInt ≤ 13 ∧ 0 ≤ (v8 + (1 : Int32)).toInt ∧ (v8 + (1 : Int32)).toInt ≤ 14 ∧ 14 - (v8 + (1 : Int32)).toInt < (n : Int) ∧ 10000 - (m.1 72 18).toInt ≤ (Nk70 : Int) ∧ 61 - v5.toInt ≤ (Nk59 : Int) by omega) (sB_keep hB (by omega)) hI hF
          · have kc32 : (v8 + (1 : Int32)).toInt = (v8).toInt + 1 := a_addl L1 (by omega) (by omega)
            exact ih v1 v2 v3 v5 v6 v8 (v8 + (1 : Int32)) m (show 1 ≤ v1.toInt ∧ v1.toInt ≤ 60 ∧ 0 ≤ v5.toInt ∧ v5.toInt ≤ 60 ∧ 0 ≤ v6.toInt ∧ v6.toInt ≤ 16383 ∧ (-1 : Int) ≤ v8.toInt ∧ v8.toInt ≤ 13 ∧ 0 ≤ (v8 + (1 : Int32)).toInt ∧ (v8 + (1 : Int32)).toInt ≤ 14 ∧ 14 - (v8 + (1 : Int32)).toInt < (n : Int) ∧ 10000 - (m.1 72 18).toInt ≤ (Nk70 : Int) ∧ 61 - v5.toInt ≤ (Nk59 : Int) by omega) (sB_take hB (has_t kHAS (by omega)) (by omega)) hI hF
theorem zX12_season_70 (m0 : sm_S) (k59 : Int32 → Int32 → Int32 → Int32 → Int32 → sm_S → Option (Int32 × sm_S)) (Nk59 : Nat) (hk59 : ∀ (v1 : Int32) (v2 : Int32) (v3 : Int32) (v4 : Int32) (v5 : Int32) (m : sm_S), (0 ≤ v1.toInt ∧ v1.toInt ≤ 60 ∧ 0 ≤ v4.toInt ∧ v4.toInt ≤ 1 ∧ 0 ≤ v5.toInt ∧ v5.toInt ≤ 61 ∧ 61 - v5.toInt < (Nk59 : Int)) → zI m → Fr wX12_season m0 m → Sf (fun r => (True) ∧ zI r.2 ∧ Fr wX12_season m0 r.2) (k59 v1 v2 v3 v4 v5 m)) : ∀ (n : Nat) (v1 : Int32) (v2 : Int32) (v3 : Int32) (v5 : Int32) (m : sm_S), (1 ≤ v1.toInt ∧ v1.toInt ≤ 60 ∧ 0 ≤ v5.toInt ∧ v5.toInt ≤ 60 ∧ 10000 - (m.1 72 18).toInt < (n : Int) ∧ 61 - v5.toInt ≤ (Nk59 : Int)) → zI m → Fr wX12_season m0 m → Sf (fun r => (True) ∧ zI r.2 ∧ Fr wX12_season m0 r.2) (fX12_season_70 k59 n v1 v2 v3 v5 m) := by
  intro n
  induction n with
  | zero =>
    intro v1 v2 v3 v5 m hp hI hF
    have kc1 : 0 ≤ (m.1 72 18).toInt ∧ (m.1 72 18).toInt ≤ 9999 := hI.1 72 18
    exfalso
    omega
  | succ n ih =>
    intro v1 v2 v3 v5 m hp hI hF
    have hnn : ((n + 1 : Nat) : Int) = (n : Int) + 1 := by omega
    have hfu := fuE
    have kc1 : 0 ≤ (m.1 72 18).toInt ∧ (m.1 72 18).toInt ≤ 9999 := hI.1 72 18
    unfold fX12_season_70
    refine s_bd (zX12_isLight (m.1 72 18) m (show 0 ≤ (m.1 72 18).toInt ∧ (m.1 72 18).toInt ≤ 9999 by omega) hI) (fun r16 kr2 => ?_)
    replace kr2 : (0 ≤ r16.toInt) ∧ (r16.toInt ≤ 1) := kr2
    have kc3 := L0
    refine s_eq (fun kh4 => ?_) (fun kh4 => ?_)
    · refine s_bd (zX12_sleeps m hI) (fun r18 kr5 => ?_)
      obtain ⟨kp6, ki7, kf8⟩ := kr5
      replace kp6 : (0 ≤ r18.1.toInt) ∧ (r18.1.toInt ≤ 1) := kp6
      have kc9 : (v5 + (1 : Int32)).toInt = (v5).toInt + 1 := a_addl L1 (by omega) (by omega)
      have kf10 : Fr wX12_season m0 r18.2 := Fr.trans hF kf8 rfl
      exact hk59 v1 v2 v3 r18.1 (v5 + (1 : Int32)) r18.2 (show 0 ≤ v1.toInt ∧ v1.toInt ≤ 60 ∧ 0 ≤ (r18.1).toInt ∧ (r18.1).toInt ≤ 1 ∧ 0 ≤ (v5 + (1 : Int32)).toInt ∧ (v5 + (1 : Int32)).toInt ≤ 61 ∧ 61 - (v5 + (1 : Int32)).toInt < (Nk59 : Int) by omega) ki7 kf10
    · refine s_bd (zX12_canNow2 m hI) (fun r20 Kr20 => ?_)
      have kr11 : (0 ≤ r20.toInt) ∧ (r20.toInt ≤ 16383) := Kr20.1.1
      refine s_eq (fun kh12 => ?_) (fun kh12 => ?_)
      · refine s_bd (zX12_sleeps m hI) (fun r22 kr13 => ?_)
        obtain ⟨kp14, ki15, kf16⟩ := kr13
        replace kp14 : (0 ≤ r22.1.toInt) ∧ (r22.1.toInt ≤ 1) := kp14
        have kc17 : (v5 + (1 : Int32)).toInt = (v5).toInt + 1 := a_addl L1 (by omega) (by omega)
        have kf18 : Fr wX12_season m0 r22.2 := Fr.trans hF kf16 rfl
        exact hk59 v1 v2 v3 r22.1 (v5 + (1 : Int32)) r22.2 (show 0 ≤ v1.toInt ∧ v1.toInt ≤ 60 ∧ 0 ≤ (r22.1).toInt ∧ (r22.1).toInt ≤ 1 ∧ 0 ≤ (v5 + (1 : Int32)).toInt ∧ (v5 + (1 : Int32)).toInt ≤ 61 ∧ 61 - (v5 + (1 : Int32)).toInt < (Nk59 : Int) by omega) ki15 kf18
      · refine s_bd (zX12_canNow2 m hI) (fun r24 Kr24 => ?_)
        have kr19 : (0 ≤ r24.toInt) ∧ (r24.toInt ≤ 16383) := Kr24.1.1
        have kc20 := Ln1
        exact zX12_season_99 m0 k59 Nk59 hk59 (fX12_season_70 k59 n) n ih sm_fu v1 v2 v3 v5 r24 (-1 : Int32) (0 : Int32) m (show 1 ≤ v1.toInt ∧ v1.toInt ≤ 60 ∧ 0 ≤ v5.toInt ∧ v5.toInt ≤ 60 ∧ 0 ≤ r24.toInt ∧ r24.toInt ≤ 16383 ∧ (-1 : Int) ≤ (-1 : Int32).toInt ∧ (-1 : Int32).toInt ≤ 13 ∧ 0 ≤ (0 : Int32).toInt ∧ (0 : Int32).toInt ≤ 14 ∧ 14 - (0 : Int32).toInt < (sm_fu : Int) ∧ 10000 - (m.1 72 18).toInt ≤ (n : Int) ∧ 61 - v5.toInt ≤ (Nk59 : Int) by omega) ⟨Kr24.1.2, (by rw [show r24 = r20 from Option.some.inj (Kr24.2.symm.trans Kr20.2)]; omega), fun q => absurd q (by omega), fun _ i hi => absurd hi (by omega)⟩ hI hF
theorem zX12_season_59 (m0 : sm_S) : ∀ (n : Nat) (v1 : Int32) (v2 : Int32) (v3 : Int32) (v4 : Int32) (v5 : Int32) (m : sm_S), (0 ≤ v1.toInt ∧ v1.toInt ≤ 60 ∧ 0 ≤ v4.toInt ∧ v4.toInt ≤ 1 ∧ 0 ≤ v5.toInt ∧ v5.toInt ≤ 61 ∧ 61 - v5.toInt < (n : Int)) → zI m → Fr wX12_season m0 m → Sf (fun r => (True) ∧ zI r.2 ∧ Fr wX12_season m0 r.2) (fX12_season_59 n v1 v2 v3 v4 v5 m) := by
  intro n
  induction n with
  | zero =>
    intro v1 v2 v3 v4 v5 m hp hI hF
    exfalso
    omega
  | succ n ih =>
    intro v1 v2 v3 v4 v5 m hp hI hF
    have hnn : ((n + 1 : Nat) : Int) = (n : Int) + 1 := by omega
    have hfu := fuE
    unfold fX12_season_59
    refine s_le (fun kh1 => ?_) (fun kh1 => ?_)
    · have kc2 := L0
      have ki3 : zI (sm_w1 m 72 1 (0 : Int32)) := zI.w hI rfl (show 0 ≤ ((0 : Int32)).toInt ∧ ((0 : Int32)).toInt ≤ 24 by omega)
      have kc4 : 0 ≤ ((sm_w1 m 72 1 (0 : Int32)).1 72 1).toInt ∧ ((sm_w1 m 72 1 (0 : Int32)).1 72 1).toInt ≤ 24 := ki3.1 72 1
      have kc5 : ((sm_w1 m 72 1 (0 : Int32)).1 72 1).toInt = ((0 : Int32)).toInt := rfl
      refine s_bd (zX12_enters v3 (sm_w1 m 72 1 (0 : Int32)) (show ((sm_w1 m 72 1 (0 : Int32)).1 72 1).toInt ≤ 23 by omega) ki3) (fun m4 kr6 => ?_)
      obtain ⟨kp7, ki8, kf9⟩ := kr6
      replace kp7 : ((m4.1 72 1).toInt = ((sm_w1 m 72 1 (0 : Int32)).1 72 1).toInt + 1) := kp7
      have kc10 : 0 ≤ (m4.1 72 1).toInt ∧ (m4.1 72 1).toInt ≤ 24 := ki8.1 72 1
      have kc11 : 0 ≤ (m4.1 72 3).toInt ∧ (m4.1 72 3).toInt ≤ 10 := ki8.1 72 3
      have kc12 : (m4.1 72 3).toInt = ((sm_w1 m 72 1 (0 : Int32)).1 72 3).toInt := congrArg Int32.toInt (kf9 72 3 rfl)
      have kc13 : 0 ≤ ((sm_w1 m 72 1 (0 : Int32)).1 72 3).toInt ∧ ((sm_w1 m 72 1 (0 : Int32)).1 72 3).toInt ≤ 10 := ki3.1 72 3
      have kc14 : ((sm_w1 m 72 1 (0 : Int32)).1 72 3).toInt = (m.1 72 3).toInt := rfl
      have kc15 : 0 ≤ (m.1 72 3).toInt ∧ (m.1 72 3).toInt ≤ 10 := hI.1 72 3
      refine s_eq (fun kh16 => ?_) (fun kh16 => ?_)
      · have kc17 := Ln1
        refine s_bd (zX12_enters (-1 : Int32) m4 (show (m4.1 72 1).toInt ≤ 23 by omega) ki8) (fun m8 kr18 => ?_)
        obtain ⟨kp19, ki20, kf21⟩ := kr18
        replace kp19 : ((m8.1 72 1).toInt = (m4.1 72 1).toInt + 1) := kp19
        have kc22 : 0 ≤ (m8.1 72 1).toInt ∧ (m8.1 72 1).toInt ≤ 24 := ki20.1 72 1
        have kf23 : Fr wX12_season m0 (sm_w1 m 72 1 (0 : Int32)) := Fr.w hF rfl
        have kf24 : Fr wX12_season m0 m4 := Fr.trans kf23 kf9 rfl
        have kf25 : Fr wX12_season m0 m8 := Fr.trans kf24 kf21 rfl
        exact s_ret ⟨trivial, ki20, kf25⟩
      · have kc26 : 0 ≤ (m4.1 72 17).toInt ∧ (m4.1 72 17).toInt ≤ 9 := ki8.1 72 17
        have kc27 : (m4.1 72 17).toInt = ((sm_w1 m 72 1 (0 : Int32)).1 72 17).toInt := congrArg Int32.toInt (kf9 72 17 rfl)
        have kc28 : 0 ≤ ((sm_w1 m 72 1 (0 : Int32)).1 72 17).toInt ∧ ((sm_w1 m 72 1 (0 : Int32)).1 72 17).toInt ≤ 9 := ki3.1 72 17
        have kc29 : ((sm_w1 m 72 1 (0 : Int32)).1 72 17).toInt = (m.1 72 17).toInt := rfl
        have kc30 : 0 ≤ (m.1 72 17).toInt ∧ (m.1 72 17).toInt ≤ 9 := hI.1 72 17
        refine s_bd (zX12_enters (m4.1 72 17) m4 (show (m4.1 72 1).toInt ≤ 23 by omega) ki8) (fun m6 kr31 => ?_)
        obtain ⟨kp32, ki33, kf34⟩ := kr31
        replace kp32 : ((m6.1 72 1).toInt = (m4.1 72 1).toInt + 1) := kp32
        have kc35 : 0 ≤ (m6.1 72 1).toInt ∧ (m6.1 72 1).toInt ≤ 24 := ki33.1 72 1
        have kf36 : Fr wX12_season m0 (sm_w1 m 72 1 (0 : Int32)) := Fr.w hF rfl
        have kf37 : Fr wX12_season m0 m4 := Fr.trans kf36 kf9 rfl
        have kf38 : Fr wX12_season m0 m6 := Fr.trans kf37 kf34 rfl
        exact s_ret ⟨trivial, ki33, kf38⟩
    · have kc39 := L0
      refine s_eq (fun kh40 => ?_) (fun kh40 => ?_)
      · have ki41 : zI (sm_w1 m 72 1 (0 : Int32)) := zI.w hI rfl (show 0 ≤ ((0 : Int32)).toInt ∧ ((0 : Int32)).toInt ≤ 24 by omega)
        have kc42 : 0 ≤ ((sm_w1 m 72 1 (0 : Int32)).1 72 1).toInt ∧ ((sm_w1 m 72 1 (0 : Int32)).1 72 1).toInt ≤ 24 := ki41.1 72 1
        have kc43 : ((sm_w1 m 72 1 (0 : Int32)).1 72 1).toInt = ((0 : Int32)).toInt := rfl
        refine s_bd (zX12_enters v3 (sm_w1 m 72 1 (0 : Int32)) (show ((sm_w1 m 72 1 (0 : Int32)).1 72 1).toInt ≤ 23 by omega) ki41) (fun m10 kr44 => ?_)
        obtain ⟨kp45, ki46, kf47⟩ := kr44
        replace kp45 : ((m10.1 72 1).toInt = ((sm_w1 m 72 1 (0 : Int32)).1 72 1).toInt + 1) := kp45
        have kc48 : 0 ≤ (m10.1 72 1).toInt ∧ (m10.1 72 1).toInt ≤ 24 := ki46.1 72 1
        have kc49 : 0 ≤ (m10.1 72 3).toInt ∧ (m10.1 72 3).toInt ≤ 10 := ki46.1 72 3
        have kc50 : (m10.1 72 3).toInt = ((sm_w1 m 72 1 (0 : Int32)).1 72 3).toInt := congrArg Int32.toInt (kf47 72 3 rfl)
        have kc51 : 0 ≤ ((sm_w1 m 72 1 (0 : Int32)).1 72 3).toInt ∧ ((sm_w1 m 72 1 (0 : Int32)).1 72 3).toInt ≤ 10 := ki41.1 72 3
        have kc52 : ((sm_w1 m 72 1 (0 : Int32)).1 72 3).toInt = (m.1 72 3).toInt := rfl
        have kc53 : 0 ≤ (m.1 72 3).toInt ∧ (m.1 72 3).toInt ≤ 10 := hI.1 72 3
        refine s_eq (fun kh54 => ?_) (fun kh54 => ?_)
        · have kc55 := Ln1
          refine s_bd (zX12_enters (-1 : Int32) m10 (show (m10.1 72 1).toInt ≤ 23 by omega) ki46) (fun m14 kr56 => ?_)
          obtain ⟨kp57, ki58, kf59⟩ := kr56
          replace kp57 : ((m14.1 72 1).toInt = (m10.1 72 1).toInt + 1) := kp57
          have kc60 : 0 ≤ (m14.1 72 1).toInt ∧ (m14.1 72 1).toInt ≤ 24 := ki58.1 72 1
          have kf61 : Fr wX12_season m0 (sm_w1 m 72 1 (0 : Int32)) := Fr.w hF rfl
          have kf62 : Fr wX12_season m0 m10 := Fr.trans kf61 kf47 rfl
          have kf63 : Fr wX12_season m0 m14 := Fr.trans kf62 kf59 rfl
          exact s_ret ⟨trivial, ki58, kf63⟩
        · have kc64 : 0 ≤ (m10.1 72 17).toInt ∧ (m10.1 72 17).toInt ≤ 9 := ki46.1 72 17
          have kc65 : (m10.1 72 17).toInt = ((sm_w1 m 72 1 (0 : Int32)).1 72 17).toInt := congrArg Int32.toInt (kf47 72 17 rfl)
          have kc66 : 0 ≤ ((sm_w1 m 72 1 (0 : Int32)).1 72 17).toInt ∧ ((sm_w1 m 72 1 (0 : Int32)).1 72 17).toInt ≤ 9 := ki41.1 72 17
          have kc67 : ((sm_w1 m 72 1 (0 : Int32)).1 72 17).toInt = (m.1 72 17).toInt := rfl
          have kc68 : 0 ≤ (m.1 72 17).toInt ∧ (m.1 72 17).toInt ≤ 9 := hI.1 72 17
          refine s_bd (zX12_enters (m10.1 72 17) m10 (show (m10.1 72 1).toInt ≤ 23 by omega) ki46) (fun m12 kr69 => ?_)
          obtain ⟨kp70, ki71, kf72⟩ := kr69
          replace kp70 : ((m12.1 72 1).toInt = (m10.1 72 1).toInt + 1) := kp70
          have kc73 : 0 ≤ (m12.1 72 1).toInt ∧ (m12.1 72 1).toInt ≤ 24 := ki71.1 72 1
          have kf74 : Fr wX12_season m0 (sm_w1 m 72 1 (0 : Int32)) := Fr.w hF rfl
          have kf75 : Fr wX12_season m0 m10 := Fr.trans kf74 kf47 rfl
          have kf76 : Fr wX12_season m0 m12 := Fr.trans kf75 kf72 rfl
          exact s_ret ⟨trivial, ki71, kf76⟩
      · have kc77 : 0 ≤ (m.1 72 18).toInt ∧ (m.1 72 18).toInt ≤ 9999 := hI.1 72 18
        exact zX12_season_70 m0 (fX12_season_59 n) n ih sm_fu v1 v2 v3 v5 m (show 1 ≤ v1.toInt ∧ v1.toInt ≤ 60 ∧ 0 ≤ v5.toInt ∧ v5.toInt ≤ 60 ∧ 10000 - (m.1 72 18).toInt < (sm_fu : Int) ∧ 61 - v5.toInt ≤ (n : Int) by omega) hI hF
theorem zX12_season (x1 : Int32) (m : sm_S) (hI : zI m) : Sf (fun r => (True) ∧ zI r.2 ∧ Fr wX12_season m r.2) (fX12_season x1 m) := by
  have hfu := fuE
  unfold fX12_season
  have kc1 : (x1).toInt64.toInt = (x1).toInt := Int32.toInt_toInt64 _
  have kc2 := LL0
  have kc3 := LL60
  have kc4 := L0
  have ki5 : zI (sm_w1 m 72 0 (0 : Int32)) := zI.w hI rfl (show 0 ≤ ((0 : Int32)).toInt ∧ ((0 : Int32)).toInt ≤ 1 by omega)
  refine s_bd (zX12_in (x1).toInt64 (0 : Int64) (60 : Int64) (sm_w1 m 72 0 (0 : Int32)) (show (-1 : Int) ≤ (0 : Int64).toInt ∧ (0 : Int64).toInt ≤ 48 ∧ (-1 : Int) ≤ (60 : Int64).toInt ∧ (60 : Int64).toInt ≤ 9999 by omega) ki5) (fun r2 kr6 => ?_)
  replace kr6 : (0 ≤ r2.toInt) ∧ (r2.toInt ≤ 1) ∧ ((r2.toInt = 0 ∧ ((x1).toInt64.toInt < (0 : Int64).toInt ∨ (60 : Int64).toInt < (x1).toInt64.toInt)) ∨ (r2.toInt = 1 ∧ (0 : Int64).toInt ≤ (x1).toInt64.toInt ∧ (x1).toInt64.toInt ≤ (60 : Int64).toInt)) := kr6
  refine s_eq (fun kh7 => ?_) (fun kh7 => ?_)
  · have kc8 := Ln1
    have kf9 : Fr wX12_season m (sm_w1 m 72 0 (0 : Int32)) := Fr.w Fr.refl rfl
    exact s_ret ⟨trivial, ki5, kf9⟩
  · refine s_le (fun kh10 => ?_) (fun kh10 => ?_)
    · have ki11 : zI (sm_w1 (sm_w1 m 72 0 (0 : Int32)) 72 27 (0 : Int32)) := zI.w ki5 rfl (show 0 ≤ ((0 : Int32)).toInt ∧ ((0 : Int32)).toInt ≤ 30 by omega)
      have kf12 : Fr wX12_season m (sm_w1 m 72 0 (0 : Int32)) := Fr.w Fr.refl rfl
      have kf13 : Fr wX12_season m (sm_w1 (sm_w1 m 72 0 (0 : Int32)) 72 27 (0 : Int32)) := Fr.w kf12 rfl
      exact zX12_season_59 m sm_fu x1 (0 : Int32) (0 : Int32) (0 : Int32) (0 : Int32) (sm_w1 (sm_w1 m 72 0 (0 : Int32)) 72 27 (0 : Int32)) (show 0 ≤ x1.toInt ∧ x1.toInt ≤ 60 ∧ 0 ≤ (0 : Int32).toInt ∧ (0 : Int32).toInt ≤ 1 ∧ 0 ≤ (0 : Int32).toInt ∧ (0 : Int32).toInt ≤ 61 ∧ 61 - (0 : Int32).toInt < (sm_fu : Int) by omega) ki11 kf13
    · have kc14 : 0 ≤ (m.1 72 18).toInt ∧ (m.1 72 18).toInt ≤ 9999 := hI.1 72 18
      have ki15 : zI (sm_w1 (sm_w1 m 72 0 (0 : Int32)) 72 27 (0 : Int32)) := zI.w ki5 rfl (show 0 ≤ ((0 : Int32)).toInt ∧ ((0 : Int32)).toInt ≤ 30 by omega)
      refine s_bd (zX12_isLight (m.1 72 18) (sm_w1 (sm_w1 m 72 0 (0 : Int32)) 72 27 (0 : Int32)) (show 0 ≤ (m.1 72 18).toInt ∧ (m.1 72 18).toInt ≤ 9999 by omega) ki15) (fun r33 kr16 => ?_)
      replace kr16 : (0 ≤ r33.toInt) ∧ (r33.toInt ≤ 1) := kr16
      refine s_eq (fun kh17 => ?_) (fun kh17 => ?_)
      · refine s_bd (zX12_sleeps (sm_w1 (sm_w1 m 72 0 (0 : Int32)) 72 27 (0 : Int32)) ki15) (fun r35 kr18 => ?_)
        obtain ⟨kp19, ki20, kf21⟩ := kr18
        replace kp19 : (0 ≤ r35.1.toInt) ∧ (r35.1.toInt ≤ 1) := kp19
        refine s_eq (fun kh22 => ?_) (fun kh22 => ?_)
        · have kf23 : Fr wX12_season m (sm_w1 m 72 0 (0 : Int32)) := Fr.w Fr.refl rfl
          have kf24 : Fr wX12_season m (sm_w1 (sm_w1 m 72 0 (0 : Int32)) 72 27 (0 : Int32)) := Fr.w kf23 rfl
          have kf25 : Fr wX12_season m r35.2 := Fr.trans kf24 kf21 rfl
          exact zX12_season_59 m sm_fu x1 (0 : Int32) (0 : Int32) (0 : Int32) (0 : Int32) r35.2 (show 0 ≤ x1.toInt ∧ x1.toInt ≤ 60 ∧ 0 ≤ (0 : Int32).toInt ∧ (0 : Int32).toInt ≤ 1 ∧ 0 ≤ (0 : Int32).toInt ∧ (0 : Int32).toInt ≤ 61 ∧ 61 - (0 : Int32).toInt < (sm_fu : Int) by omega) ki20 kf25
        · have kc26 := L1
          have kf27 : Fr wX12_season m (sm_w1 m 72 0 (0 : Int32)) := Fr.w Fr.refl rfl
          have kf28 : Fr wX12_season m (sm_w1 (sm_w1 m 72 0 (0 : Int32)) 72 27 (0 : Int32)) := Fr.w kf27 rfl
          have kf29 : Fr wX12_season m r35.2 := Fr.trans kf28 kf21 rfl
          exact zX12_season_59 m sm_fu x1 (0 : Int32) (0 : Int32) (1 : Int32) (0 : Int32) r35.2 (show 0 ≤ x1.toInt ∧ x1.toInt ≤ 60 ∧ 0 ≤ (1 : Int32).toInt ∧ (1 : Int32).toInt ≤ 1 ∧ 0 ≤ (0 : Int32).toInt ∧ (0 : Int32).toInt ≤ 61 ∧ 61 - (0 : Int32).toInt < (sm_fu : Int) by omega) ki20 kf29
      · have kc30 := L1
        have kf31 : Fr wX12_season m (sm_w1 m 72 0 (0 : Int32)) := Fr.w Fr.refl rfl
        have kf32 : Fr wX12_season m (sm_w1 (sm_w1 m 72 0 (0 : Int32)) 72 27 (0 : Int32)) := Fr.w kf31 rfl
        exact zX12_season_59 m sm_fu x1 (0 : Int32) (0 : Int32) (1 : Int32) (0 : Int32) (sm_w1 (sm_w1 m 72 0 (0 : Int32)) 72 27 (0 : Int32)) (show 0 ≤ x1.toInt ∧ x1.toInt ≤ 60 ∧ 0 ≤ (1 : Int32).toInt ∧ (1 : Int32).toInt ≤ 1 ∧ 0 ≤ (0 : Int32).toInt ∧ (0 : Int32).toInt ≤ 61 ∧ 61 - (0 : Int32).toInt < (sm_fu : Int) by omega) ki15 kf32
