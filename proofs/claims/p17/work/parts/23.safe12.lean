theorem zX12_set (x1 : Int32) (x2 : Int32) (x3 : Int32) (m : sm_S) (hI : zI m) : Sf (fun r => (((-1 : Int) ≤ r.1.toInt) ∧ (r.1.toInt ≤ 9999)) ∧ zI r.2 ∧ Fr wX12_set m r.2) (fX12_set x1 x2 x3 m) := by
  have hfu := fuE
  unfold fX12_set
  have kc1 : (x1).toInt64.toInt = (x1).toInt := Int32.toInt_toInt64 _
  have kc2 := LL0
  have kc3 := LL1
  have kc4 := L0
  have ki5 : zI (sm_w1 m 72 0 (0 : Int32)) := zI.w hI rfl (show 0 ≤ ((0 : Int32)).toInt ∧ ((0 : Int32)).toInt ≤ 1 by omega)
  refine s_bd (zX12_in (x1).toInt64 (0 : Int64) (1 : Int64) (sm_w1 m 72 0 (0 : Int32)) (show (-1 : Int) ≤ (0 : Int64).toInt ∧ (0 : Int64).toInt ≤ 48 ∧ (-1 : Int) ≤ (1 : Int64).toInt ∧ (1 : Int64).toInt ≤ 9999 by omega) ki5) (fun r2 kr6 => ?_)
  replace kr6 : (0 ≤ r2.toInt) ∧ (r2.toInt ≤ 1) ∧ ((r2.toInt = 0 ∧ ((x1).toInt64.toInt < (0 : Int64).toInt ∨ (1 : Int64).toInt < (x1).toInt64.toInt)) ∨ (r2.toInt = 1 ∧ (0 : Int64).toInt ≤ (x1).toInt64.toInt ∧ (x1).toInt64.toInt ≤ (1 : Int64).toInt)) := kr6
  refine s_eq (fun kh7 => ?_) (fun kh7 => ?_)
  · have kc8 := L2
    refine s_eq (fun kh9 => ?_) (fun kh9 => ?_)
    · have kc10 : (x3).toInt64.toInt = (x3).toInt := Int32.toInt_toInt64 _
      have kc11 := LL99
      refine s_bd (zX12_in (x3).toInt64 (0 : Int64) (99 : Int64) (sm_w1 m 72 0 (0 : Int32)) (show (-1 : Int) ≤ (0 : Int64).toInt ∧ (0 : Int64).toInt ≤ 48 ∧ (-1 : Int) ≤ (99 : Int64).toInt ∧ (99 : Int64).toInt ≤ 9999 by omega) ki5) (fun r6 kr12 => ?_)
      replace kr12 : (0 ≤ r6.toInt) ∧ (r6.toInt ≤ 1) ∧ ((r6.toInt = 0 ∧ ((x3).toInt64.toInt < (0 : Int64).toInt ∨ (99 : Int64).toInt < (x3).toInt64.toInt)) ∨ (r6.toInt = 1 ∧ (0 : Int64).toInt ≤ (x3).toInt64.toInt ∧ (x3).toInt64.toInt ≤ (99 : Int64).toInt)) := kr12
      refine s_eq (fun kh13 => ?_) (fun kh13 => ?_)
      · have kc14 := L3
        refine s_eq (fun kh15 => ?_) (fun kh15 => ?_)
        · omega
        · have kc16 := Ln1
          have kf17 : Fr wX12_set m (sm_w1 m 72 0 (0 : Int32)) := Fr.w Fr.refl rfl
          exact s_ret ⟨(show ((-1 : Int) ≤ (-1 : Int32).toInt) ∧ ((-1 : Int32).toInt ≤ 9999) by omega), ki5, kf17⟩
      · have kc18 : 0 ≤ (m.1 72 15).toInt ∧ (m.1 72 15).toInt ≤ 99 := hI.1 72 15
        have ki19 : zI (sm_w1 (sm_w1 m 72 0 (0 : Int32)) 72 15 x3) := zI.w ki5 rfl (show 0 ≤ (x3).toInt ∧ (x3).toInt ≤ 99 by omega)
        have kf20 : Fr wX12_set m (sm_w1 m 72 0 (0 : Int32)) := Fr.w Fr.refl rfl
        have kf21 : Fr wX12_set m (sm_w1 (sm_w1 m 72 0 (0 : Int32)) 72 15 x3) := Fr.w kf20 rfl
        exact s_ret ⟨(show ((-1 : Int) ≤ (m.1 72 15).toInt) ∧ ((m.1 72 15).toInt ≤ 9999) by omega), ki19, kf21⟩
    · have kc22 := L3
      refine s_eq (fun kh23 => ?_) (fun kh23 => ?_)
      · have kc24 : (x3).toInt64.toInt = (x3).toInt := Int32.toInt_toInt64 _
        have kc25 := LL9999
        refine s_bd (zX12_in (x3).toInt64 (0 : Int64) (9999 : Int64) (sm_w1 m 72 0 (0 : Int32)) (show (-1 : Int) ≤ (0 : Int64).toInt ∧ (0 : Int64).toInt ≤ 48 ∧ (-1 : Int) ≤ (9999 : Int64).toInt ∧ (9999 : Int64).toInt ≤ 9999 by omega) ki5) (fun r4 kr26 => ?_)
        replace kr26 : (0 ≤ r4.toInt) ∧ (r4.toInt ≤ 1) ∧ ((r4.toInt = 0 ∧ ((x3).toInt64.toInt < (0 : Int64).toInt ∨ (9999 : Int64).toInt < (x3).toInt64.toInt)) ∨ (r4.toInt = 1 ∧ (0 : Int64).toInt ≤ (x3).toInt64.toInt ∧ (x3).toInt64.toInt ≤ (9999 : Int64).toInt)) := kr26
        refine s_eq (fun kh27 => ?_) (fun kh27 => ?_)
        · have kc28 := Ln1
          have kf29 : Fr wX12_set m (sm_w1 m 72 0 (0 : Int32)) := Fr.w Fr.refl rfl
          exact s_ret ⟨(show ((-1 : Int) ≤ (-1 : Int32).toInt) ∧ ((-1 : Int32).toInt ≤ 9999) by omega), ki5, kf29⟩
        · have kc30 : 0 ≤ (m.1 72 16).toInt ∧ (m.1 72 16).toInt ≤ 9999 := hI.1 72 16
          have ki31 : zI (sm_w1 (sm_w1 m 72 0 (0 : Int32)) 72 16 x3) := zI.w ki5 rfl (show 0 ≤ (x3).toInt ∧ (x3).toInt ≤ 9999 by omega)
          have kf32 : Fr wX12_set m (sm_w1 m 72 0 (0 : Int32)) := Fr.w Fr.refl rfl
          have kf33 : Fr wX12_set m (sm_w1 (sm_w1 m 72 0 (0 : Int32)) 72 16 x3) := Fr.w kf32 rfl
          exact s_ret ⟨(show ((-1 : Int) ≤ (m.1 72 16).toInt) ∧ ((m.1 72 16).toInt ≤ 9999) by omega), ki31, kf33⟩
      · have kc34 := Ln1
        have kf35 : Fr wX12_set m (sm_w1 m 72 0 (0 : Int32)) := Fr.w Fr.refl rfl
        exact s_ret ⟨(show ((-1 : Int) ≤ (-1 : Int32).toInt) ∧ ((-1 : Int32).toInt ≤ 9999) by omega), ki5, kf35⟩
  · refine s_bd (zX12_isHedge x2 (sm_w1 m 72 0 (0 : Int32)) ki5) (fun r10 kr36 => ?_)
    replace kr36 : (0 ≤ r10.toInt) ∧ (r10.toInt ≤ 1) ∧ ((r10.toInt = 0 ∧ (x2.toInt < 0 ∨ ((sm_w1 m 72 0 (0 : Int32)).1 72 6).toInt ≤ x2.toInt)) ∨ (r10.toInt = 1 ∧ 0 ≤ x2.toInt ∧ x2.toInt < ((sm_w1 m 72 0 (0 : Int32)).1 72 6).toInt)) := kr36
    have kc37 : 0 ≤ ((sm_w1 m 72 0 (0 : Int32)).1 72 6).toInt ∧ ((sm_w1 m 72 0 (0 : Int32)).1 72 6).toInt ≤ 14 := ki5.1 72 6
    have kc38 : 0 ≤ ((sm_w1 m 72 0 (0 : Int32)).1 72 25).toInt ∧ ((sm_w1 m 72 0 (0 : Int32)).1 72 25).toInt ≤ 14 := ki5.1 72 25
    have kc39 := zI.le ki5
    have kc40 : ((sm_w1 m 72 0 (0 : Int32)).1 72 25).toInt = (m.1 72 25).toInt := rfl
    have kc41 : 0 ≤ (m.1 72 25).toInt ∧ (m.1 72 25).toInt ≤ 14 := hI.1 72 25
    have kc42 : 0 ≤ (m.1 72 6).toInt ∧ (m.1 72 6).toInt ≤ 14 := hI.1 72 6
    have kc43 := zI.le hI
    have kc44 : ((sm_w1 m 72 0 (0 : Int32)).1 72 6).toInt = (m.1 72 6).toInt := rfl
    refine s_eq (fun kh45 => ?_) (fun kh45 => ?_)
    · have kc46 := L2
      refine s_eq (fun kh47 => ?_) (fun kh47 => ?_)
      · omega
      · have kc48 := L3
        refine s_eq (fun kh49 => ?_) (fun kh49 => ?_)
        · omega
        · have kc50 := Ln1
          have kf51 : Fr wX12_set m (sm_w1 m 72 0 (0 : Int32)) := Fr.w Fr.refl rfl
          exact s_ret ⟨(show ((-1 : Int) ≤ (-1 : Int32).toInt) ∧ ((-1 : Int32).toInt ≤ 9999) by omega), ki5, kf51⟩
    · have kc52 : (x3).toInt64.toInt = (x3).toInt := Int32.toInt_toInt64 _
      have kc53 := LL9
      refine s_bd (zX12_in (x3).toInt64 (0 : Int64) (9 : Int64) (sm_w1 m 72 0 (0 : Int32)) (show (-1 : Int) ≤ (0 : Int64).toInt ∧ (0 : Int64).toInt ≤ 48 ∧ (-1 : Int) ≤ (9 : Int64).toInt ∧ (9 : Int64).toInt ≤ 9999 by omega) ki5) (fun r18 kr54 => ?_)
      replace kr54 : (0 ≤ r18.toInt) ∧ (r18.toInt ≤ 1) ∧ ((r18.toInt = 0 ∧ ((x3).toInt64.toInt < (0 : Int64).toInt ∨ (9 : Int64).toInt < (x3).toInt64.toInt)) ∨ (r18.toInt = 1 ∧ (0 : Int64).toInt ≤ (x3).toInt64.toInt ∧ (x3).toInt64.toInt ≤ (9 : Int64).toInt)) := kr54
      refine s_eq (fun kh55 => ?_) (fun kh55 => ?_)
      · have kc56 := L2
        refine s_eq (fun kh57 => ?_) (fun kh57 => ?_)
        · omega
        · have kc58 := L3
          refine s_eq (fun kh59 => ?_) (fun kh59 => ?_)
          · omega
          · have kc60 := Ln1
            have kf61 : Fr wX12_set m (sm_w1 m 72 0 (0 : Int32)) := Fr.w Fr.refl rfl
            exact s_ret ⟨(show ((-1 : Int) ≤ (-1 : Int32).toInt) ∧ ((-1 : Int32).toInt ≤ 9999) by omega), ki5, kf61⟩
      · refine s_eq (fun kh62 => ?_) (fun kh62 => ?_)
        · have kx63 : 0 ≤ (x2).toInt ∧ (x2).toInt < (14 : Int) := by omega
          refine s_ix kx63 ?_
          refine s_ix kx63 ?_
          have kc64 : (-1 : Int) ≤ (m.1 81 (x2).toNatClampNeg).toInt ∧ (m.1 81 (x2).toNatClampNeg).toInt ≤ 9 := hI.1 81 (x2).toNatClampNeg
          have ki65 : zI (sm_w1 (sm_w1 m 72 0 (0 : Int32)) 81 (x2).toNatClampNeg x3) := zI.w ki5 rfl (show (-1 : Int) ≤ (x3).toInt ∧ (x3).toInt ≤ 9 by omega)
          have kf66 : Fr wX12_set m (sm_w1 m 72 0 (0 : Int32)) := Fr.w Fr.refl rfl
          have kf67 : Fr wX12_set m (sm_w1 (sm_w1 m 72 0 (0 : Int32)) 81 (x2).toNatClampNeg x3) := Fr.w kf66 rfl
          exact s_ret ⟨(show ((-1 : Int) ≤ (m.1 81 (x2).toNatClampNeg).toInt) ∧ ((m.1 81 (x2).toNatClampNeg).toInt ≤ 9999) by omega), ki65, kf67⟩
        · have kx68 : 0 ≤ (x2).toInt ∧ (x2).toInt < (14 : Int) := by omega
          refine s_ix kx68 ?_
          refine s_ix kx68 ?_
          have kc69 : (-1 : Int) ≤ (m.1 82 (x2).toNatClampNeg).toInt ∧ (m.1 82 (x2).toNatClampNeg).toInt ≤ 9 := hI.1 82 (x2).toNatClampNeg
          have kc70 : 0 ≤ (m.1 82 (x2).toNatClampNeg).toInt := zI.pf82 hI x2 (by omega) (by omega)
          have ki71 : zI (sm_w1 (sm_w1 m 72 0 (0 : Int32)) 82 (x2).toNatClampNeg x3) := zI.w82 ki5 (show (-1 : Int) ≤ (x3).toInt ∧ (x3).toInt ≤ 9 by omega) (show 0 ≤ (x3).toInt ∨ ((sm_w1 m 72 0 (0 : Int32)).1 72 25).toInt ≤ (x2).toInt by omega) (show 0 ≤ (x2).toInt by omega)
          have kf72 : Fr wX12_set m (sm_w1 m 72 0 (0 : Int32)) := Fr.w Fr.refl rfl
          have kf73 : Fr wX12_set m (sm_w1 (sm_w1 m 72 0 (0 : Int32)) 82 (x2).toNatClampNeg x3) := Fr.w kf72 rfl
          exact s_ret ⟨(show ((-1 : Int) ≤ (m.1 82 (x2).toNatClampNeg).toInt) ∧ ((m.1 82 (x2).toNatClampNeg).toInt ≤ 9999) by omega), ki71, kf73⟩
theorem zX12_sheet_46 (m0 : sm_S) : ∀ (n : Nat) (v1 : Int32) (v2 : Int32) (v4 : Int32) (v5 : Int32) (v6 : Int32) (v7 : Int32) (m : sm_S), (0 ≤ v1.toInt ∧ v1.toInt ≤ 3 ∧ v2.toInt ≤ 14 ∧ 0 ≤ v7.toInt ∧ v7.toInt ≤ 14 ∧ 14 - v7.toInt < (n : Int)) → zI m → Fr wX12_sheet m0 m → Sf (fun r => (True) ∧ zI r.2 ∧ Fr wX12_sheet m0 r.2) (fX12_sheet_46 n v1 v2 v4 v5 v6 v7 m) := by
  intro n
  induction n with
  | zero =>
    intro v1 v2 v4 v5 v6 v7 m hp hI hF
    have krgv2 := rg v2
    exfalso
    omega
  | succ n ih =>
    intro v1 v2 v4 v5 v6 v7 m hp hI hF
    have hnn : ((n + 1 : Nat) : Int) = (n : Int) + 1 := by omega
    have hfu := fuE
    have krgv2 := rg v2
    unfold fX12_sheet_46
    have kc1 : 0 ≤ (m.1 72 6).toInt ∧ (m.1 72 6).toInt ≤ 14 := hI.1 72 6
    have kc2 : 0 ≤ (m.1 72 25).toInt ∧ (m.1 72 25).toInt ≤ 14 := hI.1 72 25
    have kc3 := zI.le hI
    refine s_le (fun kh4 => ?_) (fun kh4 => ?_)
    · have kc5 := L3
      refine s_eq (fun kh6 => ?_) (fun kh6 => ?_)
      · have kc7 := Ln3
        exact s_ret ⟨trivial, hI, hF⟩
      · exact s_ret ⟨trivial, hI, hF⟩
    · have kc8 := L0
      refine s_eq (fun kh9 => ?_) (fun kh9 => ?_)
      · have kc10 := L3
        refine s_eq (fun kh11 => ?_) (fun kh11 => ?_)
        · omega
        · refine s_lt (fun kh12 => ?_) (fun kh12 => ?_)
          · have kx13 : 0 ≤ (v7).toInt ∧ (v7).toInt < (14 : Int) := by omega
            refine s_ix kx13 ?_
            refine s_ix kx13 ?_
            have kc14 := L1
            have kc15 := L20
            have kc16 : ((((v6).toInt8).toInt32).toInt < ((20 : Int32)).toInt ∧ (if ((v6).toInt8).toInt32 < (20 : Int32) then ((v6).toInt8).toInt32 else (20 : Int32)).toInt = (((v6).toInt8).toInt32).toInt) ∨ (((20 : Int32)).toInt ≤ (((v6).toInt8).toInt32).toInt ∧ (if ((v6).toInt8).toInt32 < (20 : Int32) then ((v6).toInt8).toInt32 else (20 : Int32)).toInt = ((20 : Int32)).toInt) := a_ilt
            have kc17 : (((1 : Int32)).toInt < ((if ((v6).toInt8).toInt32 < (20 : Int32) then ((v6).toInt8).toInt32 else (20 : Int32))).toInt ∧ (if (1 : Int32) < (if ((v6).toInt8).toInt32 < (20 : Int32) then ((v6).toInt8).toInt32 else (20 : Int32)) then (if ((v6).toInt8).toInt32 < (20 : Int32) then ((v6).toInt8).toInt32 else (20 : Int32)) else (1 : Int32)).toInt = ((if ((v6).toInt8).toInt32 < (20 : Int32) then ((v6).toInt8).toInt32 else (20 : Int32))).toInt) ∨ (((if ((v6).toInt8).toInt32 < (20 : Int32) then ((v6).toInt8).toInt32 else (20 : Int32))).toInt ≤ ((1 : Int32)).toInt ∧ (if (1 : Int32) < (if ((v6).toInt8).toInt32 < (20 : Int32) then ((v6).toInt8).toInt32 else (20 : Int32)) then (if ((v6).toInt8).toInt32 < (20 : Int32) then ((v6).toInt8).toInt32 else (20 : Int32)) else (1 : Int32)).toInt = ((1 : Int32)).toInt) := a_ilt
            have ki18 : zI (sm_w1 m 78 (v7).toNatClampNeg (if (1 : Int32) < (if ((v6).toInt8).toInt32 < (20 : Int32) then ((v6).toInt8).toInt32 else (20 : Int32)) then (if ((v6).toInt8).toInt32 < (20 : Int32) then ((v6).toInt8).toInt32 else (20 : Int32)) else (1 : Int32))) := zI.w78 hI (show (-1 : Int) ≤ ((if (1 : Int32) < (if ((v6).toInt8).toInt32 < (20 : Int32) then ((v6).toInt8).toInt32 else (20 : Int32)) then (if ((v6).toInt8).toInt32 < (20 : Int32) then ((v6).toInt8).toInt32 else (20 : Int32)) else (1 : Int32))).toInt ∧ ((if (1 : Int32) < (if ((v6).toInt8).toInt32 < (20 : Int32) then ((v6).toInt8).toInt32 else (20 : Int32)) then (if ((v6).toInt8).toInt32 < (20 : Int32) then ((v6).toInt8).toInt32 else (20 : Int32)) else (1 : Int32))).toInt ≤ 20 by omega) (show 1 ≤ ((if (1 : Int32) < (if ((v6).toInt8).toInt32 < (20 : Int32) then ((v6).toInt8).toInt32 else (20 : Int32)) then (if ((v6).toInt8).toInt32 < (20 : Int32) then ((v6).toInt8).toInt32 else (20 : Int32)) else (1 : Int32))).toInt ∨ (m.1 72 25).toInt ≤ (v7).toInt by omega) (show 0 ≤ (v7).toInt by omega)
            have kc19 : (-1 : Int) ≤ ((sm_w1 m 78 (v7).toNatClampNeg (if (1 : Int32) < (if ((v6).toInt8).toInt32 < (20 : Int32) then ((v6).toInt8).toInt32 else (20 : Int32)) then (if ((v6).toInt8).toInt32 < (20 : Int32) then ((v6).toInt8).toInt32 else (20 : Int32)) else (1 : Int32))).1 78 (v7).toNatClampNeg).toInt ∧ ((sm_w1 m 78 (v7).toNatClampNeg (if (1 : Int32) < (if ((v6).toInt8).toInt32 < (20 : Int32) then ((v6).toInt8).toInt32 else (20 : Int32)) then (if ((v6).toInt8).toInt32 < (20 : Int32) then ((v6).toInt8).toInt32 else (20 : Int32)) else (1 : Int32))).1 78 (v7).toNatClampNeg).toInt ≤ 20 := ki18.1 78 (v7).toNatClampNeg
            have kc20 : 0 ≤ ((sm_w1 m 78 (v7).toNatClampNeg (if (1 : Int32) < (if ((v6).toInt8).toInt32 < (20 : Int32) then ((v6).toInt8).toInt32 else (20 : Int32)) then (if ((v6).toInt8).toInt32 < (20 : Int32) then ((v6).toInt8).toInt32 else (20 : Int32)) else (1 : Int32))).1 72 6).toInt ∧ ((sm_w1 m 78 (v7).toNatClampNeg (if (1 : Int32) < (if ((v6).toInt8).toInt32 < (20 : Int32) then ((v6).toInt8).toInt32 else (20 : Int32)) then (if ((v6).toInt8).toInt32 < (20 : Int32) then ((v6).toInt8).toInt32 else (20 : Int32)) else (1 : Int32))).1 72 6).toInt ≤ 14 := ki18.1 72 6
            have kc21 : 0 ≤ ((sm_w1 m 78 (v7).toNatClampNeg (if (1 : Int32) < (if ((v6).toInt8).toInt32 < (20 : Int32) then ((v6).toInt8).toInt32 else (20 : Int32)) then (if ((v6).toInt8).toInt32 < (20 : Int32) then ((v6).toInt8).toInt32 else (20 : Int32)) else (1 : Int32))).1 72 25).toInt ∧ ((sm_w1 m 78 (v7).toNatClampNeg (if (1 : Int32) < (if ((v6).toInt8).toInt32 < (20 : Int32) then ((v6).toInt8).toInt32 else (20 : Int32)) then (if ((v6).toInt8).toInt32 < (20 : Int32) then ((v6).toInt8).toInt32 else (20 : Int32)) else (1 : Int32))).1 72 25).toInt ≤ 14 := ki18.1 72 25
            have kc22 := zI.le ki18
            have kc23 : ((sm_w1 m 78 (v7).toNatClampNeg (if (1 : Int32) < (if ((v6).toInt8).toInt32 < (20 : Int32) then ((v6).toInt8).toInt32 else (20 : Int32)) then (if ((v6).toInt8).toInt32 < (20 : Int32) then ((v6).toInt8).toInt32 else (20 : Int32)) else (1 : Int32))).1 72 25).toInt = (m.1 72 25).toInt := congrArg Int32.toInt (r_cell (by decide))
            have kc24 : ((sm_w1 m 78 (v7).toNatClampNeg (if (1 : Int32) < (if ((v6).toInt8).toInt32 < (20 : Int32) then ((v6).toInt8).toInt32 else (20 : Int32)) then (if ((v6).toInt8).toInt32 < (20 : Int32) then ((v6).toInt8).toInt32 else (20 : Int32)) else (1 : Int32))).1 72 6).toInt = (m.1 72 6).toInt := congrArg Int32.toInt (r_cell (by decide))
            have kc25 : 1 ≤ ((sm_w1 m 78 (v7).toNatClampNeg (if (1 : Int32) < (if ((v6).toInt8).toInt32 < (20 : Int32) then ((v6).toInt8).toInt32 else (20 : Int32)) then (if ((v6).toInt8).toInt32 < (20 : Int32) then ((v6).toInt8).toInt32 else (20 : Int32)) else (1 : Int32))).1 78 (v7).toNatClampNeg).toInt := zI.pf78 ki18 v7 (by omega) (by omega)
            have kc26 : ((sm_w1 m 78 (v7).toNatClampNeg (if (1 : Int32) < (if ((v6).toInt8).toInt32 < (20 : Int32) then ((v6).toInt8).toInt32 else (20 : Int32)) then (if ((v6).toInt8).toInt32 < (20 : Int32) then ((v6).toInt8).toInt32 else (20 : Int32)) else (1 : Int32))).1 78 (v7).toNatClampNeg).toInt = ((if (1 : Int32) < (if ((v6).toInt8).toInt32 < (20 : Int32) then ((v6).toInt8).toInt32 else (20 : Int32)) then (if ((v6).toInt8).toInt32 < (20 : Int32) then ((v6).toInt8).toInt32 else (20 : Int32)) else (1 : Int32))).toInt := congrArg Int32.toInt r_hit
            have kc27 : (v7 + (1 : Int32)).toInt = (v7).toInt + 1 := a_addl L1 (by omega) (by omega)
            have kf28 : Fr wX12_sheet m0 (sm_w1 m 78 (v7).toNatClampNeg (if (1 : Int32) < (if ((v6).toInt8).toInt32 < (20 : Int32) then ((v6).toInt8).toInt32 else (20 : Int32)) then (if ((v6).toInt8).toInt32 < (20 : Int32) then ((v6).toInt8).toInt32 else (20 : Int32)) else (1 : Int32))) := Fr.w hF rfl
            exact ih v1 v2 v4 (v5 + ((sm_w1 m 78 (v7).toNatClampNeg (if (1 : Int32) < (if ((v6).toInt8).toInt32 < (20 : Int32) then ((v6).toInt8).toInt32 else (20 : Int32)) then (if ((v6).toInt8).toInt32 < (20 : Int32) then ((v6).toInt8).toInt32 else (20 : Int32)) else (1 : Int32))).1 78 (v7).toNatClampNeg)) (v6 + v4) (v7 + (1 : Int32)) (sm_w1 m 78 (v7).toNatClampNeg (if (1 : Int32) < (if ((v6).toInt8).toInt32 < (20 : Int32) then ((v6).toInt8).toInt32 else (20 : Int32)) then (if ((v6).toInt8).toInt32 < (20 : Int32) then ((v6).toInt8).toInt32 else (20 : Int32)) else (1 : Int32))) (show 0 ≤ v1.toInt ∧ v1.toInt ≤ 3 ∧ v2.toInt ≤ 14 ∧ 0 ≤ (v7 + (1 : Int32)).toInt ∧ (v7 + (1 : Int32)).toInt ≤ 14 ∧ 14 - (v7 + (1 : Int32)).toInt < (n : Int) by omega) ki18 kf28
          · have kx29 : 0 ≤ (v7).toInt ∧ (v7).toInt < (14 : Int) := by omega
            refine s_ix kx29 ?_
            refine s_ix kx29 ?_
            have kc30 := L1
            have ki31 : zI (sm_w1 m 78 (v7).toNatClampNeg (1 : Int32)) := zI.w78 hI (show (-1 : Int) ≤ ((1 : Int32)).toInt ∧ ((1 : Int32)).toInt ≤ 20 by omega) (show 1 ≤ ((1 : Int32)).toInt ∨ (m.1 72 25).toInt ≤ (v7).toInt by omega) (show 0 ≤ (v7).toInt by omega)
            have kc32 : (-1 : Int) ≤ ((sm_w1 m 78 (v7).toNatClampNeg (1 : Int32)).1 78 (v7).toNatClampNeg).toInt ∧ ((sm_w1 m 78 (v7).toNatClampNeg (1 : Int32)).1 78 (v7).toNatClampNeg).toInt ≤ 20 := ki31.1 78 (v7).toNatClampNeg
            have kc33 : 0 ≤ ((sm_w1 m 78 (v7).toNatClampNeg (1 : Int32)).1 72 6).toInt ∧ ((sm_w1 m 78 (v7).toNatClampNeg (1 : Int32)).1 72 6).toInt ≤ 14 := ki31.1 72 6
            have kc34 : 0 ≤ ((sm_w1 m 78 (v7).toNatClampNeg (1 : Int32)).1 72 25).toInt ∧ ((sm_w1 m 78 (v7).toNatClampNeg (1 : Int32)).1 72 25).toInt ≤ 14 := ki31.1 72 25
            have kc35 := zI.le ki31
            have kc36 : ((sm_w1 m 78 (v7).toNatClampNeg (1 : Int32)).1 72 25).toInt = (m.1 72 25).toInt := congrArg Int32.toInt (r_cell (by decide))
            have kc37 : ((sm_w1 m 78 (v7).toNatClampNeg (1 : Int32)).1 72 6).toInt = (m.1 72 6).toInt := congrArg Int32.toInt (r_cell (by decide))
            have kc38 : 1 ≤ ((sm_w1 m 78 (v7).toNatClampNeg (1 : Int32)).1 78 (v7).toNatClampNeg).toInt := zI.pf78 ki31 v7 (by omega) (by omega)
            have kc39 : ((sm_w1 m 78 (v7).toNatClampNeg (1 : Int32)).1 78 (v7).toNatClampNeg).toInt = ((1 : Int32)).toInt := congrArg Int32.toInt r_hit
            have kc40 : (v7 + (1 : Int32)).toInt = (v7).toInt + 1 := a_addl L1 (by omega) (by omega)
            have kf41 : Fr wX12_sheet m0 (sm_w1 m 78 (v7).toNatClampNeg (1 : Int32)) := Fr.w hF rfl
            exact ih v1 v2 v4 (v5 + ((sm_w1 m 78 (v7).toNatClampNeg (1 : Int32)).1 78 (v7).toNatClampNeg)) (v6 + v4) (v7 + (1 : Int32)) (sm_w1 m 78 (v7).toNatClampNeg (1 : Int32)) (show 0 ≤ v1.toInt ∧ v1.toInt ≤ 3 ∧ v2.toInt ≤ 14 ∧ 0 ≤ (v7 + (1 : Int32)).toInt ∧ (v7 + (1 : Int32)).toInt ≤ 14 ∧ 14 - (v7 + (1 : Int32)).toInt < (n : Int) by omega) ki31 kf41
      · have kc42 := L1
        refine s_eq (fun kh43 => ?_) (fun kh43 => ?_)
        · have kc44 := L3
          refine s_eq (fun kh45 => ?_) (fun kh45 => ?_)
          · omega
          · refine s_lt (fun kh46 => ?_) (fun kh46 => ?_)
            · have kx47 : 0 ≤ (v7).toInt ∧ (v7).toInt < (14 : Int) := by omega
              refine s_ix kx47 ?_
              refine s_ix kx47 ?_
              have kc48 := L20
              have kc49 : ((((v6).toInt16).toInt32).toInt < ((20 : Int32)).toInt ∧ (if ((v6).toInt16).toInt32 < (20 : Int32) then ((v6).toInt16).toInt32 else (20 : Int32)).toInt = (((v6).toInt16).toInt32).toInt) ∨ (((20 : Int32)).toInt ≤ (((v6).toInt16).toInt32).toInt ∧ (if ((v6).toInt16).toInt32 < (20 : Int32) then ((v6).toInt16).toInt32 else (20 : Int32)).toInt = ((20 : Int32)).toInt) := a_ilt
              have kc50 : (((1 : Int32)).toInt < ((if ((v6).toInt16).toInt32 < (20 : Int32) then ((v6).toInt16).toInt32 else (20 : Int32))).toInt ∧ (if (1 : Int32) < (if ((v6).toInt16).toInt32 < (20 : Int32) then ((v6).toInt16).toInt32 else (20 : Int32)) then (if ((v6).toInt16).toInt32 < (20 : Int32) then ((v6).toInt16).toInt32 else (20 : Int32)) else (1 : Int32)).toInt = ((if ((v6).toInt16).toInt32 < (20 : Int32) then ((v6).toInt16).toInt32 else (20 : Int32))).toInt) ∨ (((if ((v6).toInt16).toInt32 < (20 : Int32) then ((v6).toInt16).toInt32 else (20 : Int32))).toInt ≤ ((1 : Int32)).toInt ∧ (if (1 : Int32) < (if ((v6).toInt16).toInt32 < (20 : Int32) then ((v6).toInt16).toInt32 else (20 : Int32)) then (if ((v6).toInt16).toInt32 < (20 : Int32) then ((v6).toInt16).toInt32 else (20 : Int32)) else (1 : Int32)).toInt = ((1 : Int32)).toInt) := a_ilt
              have ki51 : zI (sm_w1 m 78 (v7).toNatClampNeg (if (1 : Int32) < (if ((v6).toInt16).toInt32 < (20 : Int32) then ((v6).toInt16).toInt32 else (20 : Int32)) then (if ((v6).toInt16).toInt32 < (20 : Int32) then ((v6).toInt16).toInt32 else (20 : Int32)) else (1 : Int32))) := zI.w78 hI (show (-1 : Int) ≤ ((if (1 : Int32) < (if ((v6).toInt16).toInt32 < (20 : Int32) then ((v6).toInt16).toInt32 else (20 : Int32)) then (if ((v6).toInt16).toInt32 < (20 : Int32) then ((v6).toInt16).toInt32 else (20 : Int32)) else (1 : Int32))).toInt ∧ ((if (1 : Int32) < (if ((v6).toInt16).toInt32 < (20 : Int32) then ((v6).toInt16).toInt32 else (20 : Int32)) then (if ((v6).toInt16).toInt32 < (20 : Int32) then ((v6).toInt16).toInt32 else (20 : Int32)) else (1 : Int32))).toInt ≤ 20 by omega) (show 1 ≤ ((if (1 : Int32) < (if ((v6).toInt16).toInt32 < (20 : Int32) then ((v6).toInt16).toInt32 else (20 : Int32)) then (if ((v6).toInt16).toInt32 < (20 : Int32) then ((v6).toInt16).toInt32 else (20 : Int32)) else (1 : Int32))).toInt ∨ (m.1 72 25).toInt ≤ (v7).toInt by omega) (show 0 ≤ (v7).toInt by omega)
              have kc52 : (-1 : Int) ≤ ((sm_w1 m 78 (v7).toNatClampNeg (if (1 : Int32) < (if ((v6).toInt16).toInt32 < (20 : Int32) then ((v6).toInt16).toInt32 else (20 : Int32)) then (if ((v6).toInt16).toInt32 < (20 : Int32) then ((v6).toInt16).toInt32 else (20 : Int32)) else (1 : Int32))).1 78 (v7).toNatClampNeg).toInt ∧ ((sm_w1 m 78 (v7).toNatClampNeg (if (1 : Int32) < (if ((v6).toInt16).toInt32 < (20 : Int32) then ((v6).toInt16).toInt32 else (20 : Int32)) then (if ((v6).toInt16).toInt32 < (20 : Int32) then ((v6).toInt16).toInt32 else (20 : Int32)) else (1 : Int32))).1 78 (v7).toNatClampNeg).toInt ≤ 20 := ki51.1 78 (v7).toNatClampNeg
              have kc53 : 0 ≤ ((sm_w1 m 78 (v7).toNatClampNeg (if (1 : Int32) < (if ((v6).toInt16).toInt32 < (20 : Int32) then ((v6).toInt16).toInt32 else (20 : Int32)) then (if ((v6).toInt16).toInt32 < (20 : Int32) then ((v6).toInt16).toInt32 else (20 : Int32)) else (1 : Int32))).1 72 6).toInt ∧ ((sm_w1 m 78 (v7).toNatClampNeg (if (1 : Int32) < (if ((v6).toInt16).toInt32 < (20 : Int32) then ((v6).toInt16).toInt32 else (20 : Int32)) then (if ((v6).toInt16).toInt32 < (20 : Int32) then ((v6).toInt16).toInt32 else (20 : Int32)) else (1 : Int32))).1 72 6).toInt ≤ 14 := ki51.1 72 6
              have kc54 : 0 ≤ ((sm_w1 m 78 (v7).toNatClampNeg (if (1 : Int32) < (if ((v6).toInt16).toInt32 < (20 : Int32) then ((v6).toInt16).toInt32 else (20 : Int32)) then (if ((v6).toInt16).toInt32 < (20 : Int32) then ((v6).toInt16).toInt32 else (20 : Int32)) else (1 : Int32))).1 72 25).toInt ∧ ((sm_w1 m 78 (v7).toNatClampNeg (if (1 : Int32) < (if ((v6).toInt16).toInt32 < (20 : Int32) then ((v6).toInt16).toInt32 else (20 : Int32)) then (if ((v6).toInt16).toInt32 < (20 : Int32) then ((v6).toInt16).toInt32 else (20 : Int32)) else (1 : Int32))).1 72 25).toInt ≤ 14 := ki51.1 72 25
              have kc55 := zI.le ki51
              have kc56 : ((sm_w1 m 78 (v7).toNatClampNeg (if (1 : Int32) < (if ((v6).toInt16).toInt32 < (20 : Int32) then ((v6).toInt16).toInt32 else (20 : Int32)) then (if ((v6).toInt16).toInt32 < (20 : Int32) then ((v6).toInt16).toInt32 else (20 : Int32)) else (1 : Int32))).1 72 25).toInt = (m.1 72 25).toInt := congrArg Int32.toInt (r_cell (by decide))
              have kc57 : ((sm_w1 m 78 (v7).toNatClampNeg (if (1 : Int32) < (if ((v6).toInt16).toInt32 < (20 : Int32) then ((v6).toInt16).toInt32 else (20 : Int32)) then (if ((v6).toInt16).toInt32 < (20 : Int32) then ((v6).toInt16).toInt32 else (20 : Int32)) else (1 : Int32))).1 72 6).toInt = (m.1 72 6).toInt := congrArg Int32.toInt (r_cell (by decide))
              have kc58 : 1 ≤ ((sm_w1 m 78 (v7).toNatClampNeg (if (1 : Int32) < (if ((v6).toInt16).toInt32 < (20 : Int32) then ((v6).toInt16).toInt32 else (20 : Int32)) then (if ((v6).toInt16).toInt32 < (20 : Int32) then ((v6).toInt16).toInt32 else (20 : Int32)) else (1 : Int32))).1 78 (v7).toNatClampNeg).toInt := zI.pf78 ki51 v7 (by omega) (by omega)
              have kc59 : ((sm_w1 m 78 (v7).toNatClampNeg (if (1 : Int32) < (if ((v6).toInt16).toInt32 < (20 : Int32) then ((v6).toInt16).toInt32 else (20 : Int32)) then (if ((v6).toInt16).toInt32 < (20 : Int32) then ((v6).toInt16).toInt32 else (20 : Int32)) else (1 : Int32))).1 78 (v7).toNatClampNeg).toInt = ((if (1 : Int32) < (if ((v6).toInt16).toInt32 < (20 : Int32) then ((v6).toInt16).toInt32 else (20 : Int32)) then (if ((v6).toInt16).toInt32 < (20 : Int32) then ((v6).toInt16).toInt32 else (20 : Int32)) else (1 : Int32))).toInt := congrArg Int32.toInt r_hit
              have kc60 : (v7 + (1 : Int32)).toInt = (v7).toInt + 1 := a_addl L1 (by omega) (by omega)
              have kf61 : Fr wX12_sheet m0 (sm_w1 m 78 (v7).toNatClampNeg (if (1 : Int32) < (if ((v6).toInt16).toInt32 < (20 : Int32) then ((v6).toInt16).toInt32 else (20 : Int32)) then (if ((v6).toInt16).toInt32 < (20 : Int32) then ((v6).toInt16).toInt32 else (20 : Int32)) else (1 : Int32))) := Fr.w hF rfl
              exact ih v1 v2 v4 (v5 + ((sm_w1 m 78 (v7).toNatClampNeg (if (1 : Int32) < (if ((v6).toInt16).toInt32 < (20 : Int32) then ((v6).toInt16).toInt32 else (20 : Int32)) then (if ((v6).toInt16).toInt32 < (20 : Int32) then ((v6).toInt16).toInt32 else (20 : Int32)) else (1 : Int32))).1 78 (v7).toNatClampNeg)) (v6 + v4) (v7 + (1 : Int32)) (sm_w1 m 78 (v7).toNatClampNeg (if (1 : Int32) < (if ((v6).toInt16).toInt32 < (20 : Int32) then ((v6).toInt16).toInt32 else (20 : Int32)) then (if ((v6).toInt16).toInt32 < (20 : Int32) then ((v6).toInt16).toInt32 else (20 : Int32)) else (1 : Int32))) (show 0 ≤ v1.toInt ∧ v1.toInt ≤ 3 ∧ v2.toInt ≤ 14 ∧ 0 ≤ (v7 + (1 : Int32)).toInt ∧ (v7 + (1 : Int32)).toInt ≤ 14 ∧ 14 - (v7 + (1 : Int32)).toInt < (n : Int) by omega) ki51 kf61
            · have kx62 : 0 ≤ (v7).toInt ∧ (v7).toInt < (14 : Int) := by omega
              refine s_ix kx62 ?_
              refine s_ix kx62 ?_
              have ki63 : zI (sm_w1 m 78 (v7).toNatClampNeg (1 : Int32)) := zI.w78 hI (show (-1 : Int) ≤ ((1 : Int32)).toInt ∧ ((1 : Int32)).toInt ≤ 20 by omega) (show 1 ≤ ((1 : Int32)).toInt ∨ (m.1 72 25).toInt ≤ (v7).toInt by omega) (show 0 ≤ (v7).toInt by omega)
              have kc64 : (-1 : Int) ≤ ((sm_w1 m 78 (v7).toNatClampNeg (1 : Int32)).1 78 (v7).toNatClampNeg).toInt ∧ ((sm_w1 m 78 (v7).toNatClampNeg (1 : Int32)).1 78 (v7).toNatClampNeg).toInt ≤ 20 := ki63.1 78 (v7).toNatClampNeg
              have kc65 : 0 ≤ ((sm_w1 m 78 (v7).toNatClampNeg (1 : Int32)).1 72 6).toInt ∧ ((sm_w1 m 78 (v7).toNatClampNeg (1 : Int32)).1 72 6).toInt ≤ 14 := ki63.1 72 6
              have kc66 : 0 ≤ ((sm_w1 m 78 (v7).toNatClampNeg (1 : Int32)).1 72 25).toInt ∧ ((sm_w1 m 78 (v7).toNatClampNeg (1 : Int32)).1 72 25).toInt ≤ 14 := ki63.1 72 25
              have kc67 := zI.le ki63
              have kc68 : ((sm_w1 m 78 (v7).toNatClampNeg (1 : Int32)).1 72 25).toInt = (m.1 72 25).toInt := congrArg Int32.toInt (r_cell (by decide))
              have kc69 : ((sm_w1 m 78 (v7).toNatClampNeg (1 : Int32)).1 72 6).toInt = (m.1 72 6).toInt := congrArg Int32.toInt (r_cell (by decide))
              have kc70 : 1 ≤ ((sm_w1 m 78 (v7).toNatClampNeg (1 : Int32)).1 78 (v7).toNatClampNeg).toInt := zI.pf78 ki63 v7 (by omega) (by omega)
              have kc71 : ((sm_w1 m 78 (v7).toNatClampNeg (1 : Int32)).1 78 (v7).toNatClampNeg).toInt = ((1 : Int32)).toInt := congrArg Int32.toInt r_hit
              have kc72 : (v7 + (1 : Int32)).toInt = (v7).toInt + 1 := a_addl L1 (by omega) (by omega)
              have kf73 : Fr wX12_sheet m0 (sm_w1 m 78 (v7).toNatClampNeg (1 : Int32)) := Fr.w hF rfl
              exact ih v1 v2 v4 (v5 + ((sm_w1 m 78 (v7).toNatClampNeg (1 : Int32)).1 78 (v7).toNatClampNeg)) (v6 + v4) (v7 + (1 : Int32)) (sm_w1 m 78 (v7).toNatClampNeg (1 : Int32)) (show 0 ≤ v1.toInt ∧ v1.toInt ≤ 3 ∧ v2.toInt ≤ 14 ∧ 0 ≤ (v7 + (1 : Int32)).toInt ∧ (v7 + (1 : Int32)).toInt ≤ 14 ∧ 14 - (v7 + (1 : Int32)).toInt < (n : Int) by omega) ki63 kf73
        · have kc74 := L3
          refine s_eq (fun kh75 => ?_) (fun kh75 => ?_)
          · have kx76 : 0 ≤ (v7).toInt ∧ (v7).toInt < (14 : Int) := by omega
            refine s_ix kx76 ?_
            refine s_ix kx76 ?_
            have ki77 : zI (sm_w1 m 78 (v7).toNatClampNeg (1 : Int32)) := zI.w78 hI (show (-1 : Int) ≤ ((1 : Int32)).toInt ∧ ((1 : Int32)).toInt ≤ 20 by omega) (show 1 ≤ ((1 : Int32)).toInt ∨ (m.1 72 25).toInt ≤ (v7).toInt by omega) (show 0 ≤ (v7).toInt by omega)
            have kc78 : (-1 : Int) ≤ ((sm_w1 m 78 (v7).toNatClampNeg (1 : Int32)).1 78 (v7).toNatClampNeg).toInt ∧ ((sm_w1 m 78 (v7).toNatClampNeg (1 : Int32)).1 78 (v7).toNatClampNeg).toInt ≤ 20 := ki77.1 78 (v7).toNatClampNeg
            have kc79 : 0 ≤ ((sm_w1 m 78 (v7).toNatClampNeg (1 : Int32)).1 72 6).toInt ∧ ((sm_w1 m 78 (v7).toNatClampNeg (1 : Int32)).1 72 6).toInt ≤ 14 := ki77.1 72 6
            have kc80 : 0 ≤ ((sm_w1 m 78 (v7).toNatClampNeg (1 : Int32)).1 72 25).toInt ∧ ((sm_w1 m 78 (v7).toNatClampNeg (1 : Int32)).1 72 25).toInt ≤ 14 := ki77.1 72 25
            have kc81 := zI.le ki77
            have kc82 : ((sm_w1 m 78 (v7).toNatClampNeg (1 : Int32)).1 72 25).toInt = (m.1 72 25).toInt := congrArg Int32.toInt (r_cell (by decide))
            have kc83 : ((sm_w1 m 78 (v7).toNatClampNeg (1 : Int32)).1 72 6).toInt = (m.1 72 6).toInt := congrArg Int32.toInt (r_cell (by decide))
            have kc84 : 1 ≤ ((sm_w1 m 78 (v7).toNatClampNeg (1 : Int32)).1 78 (v7).toNatClampNeg).toInt := zI.pf78 ki77 v7 (by omega) (by omega)
            have kc85 : ((sm_w1 m 78 (v7).toNatClampNeg (1 : Int32)).1 78 (v7).toNatClampNeg).toInt = ((1 : Int32)).toInt := congrArg Int32.toInt r_hit
            have kc86 : (v7 + (1 : Int32)).toInt = (v7).toInt + 1 := a_addl L1 (by omega) (by omega)
            have kf87 : Fr wX12_sheet m0 (sm_w1 m 78 (v7).toNatClampNeg (1 : Int32)) := Fr.w hF rfl
            exact ih v1 v2 v4 (v5 + ((sm_w1 m 78 (v7).toNatClampNeg (1 : Int32)).1 78 (v7).toNatClampNeg)) (v6 + v4) (v7 + (1 : Int32)) (sm_w1 m 78 (v7).toNatClampNeg (1 : Int32)) (show 0 ≤ v1.toInt ∧ v1.toInt ≤ 3 ∧ v2.toInt ≤ 14 ∧ 0 ≤ (v7 + (1 : Int32)).toInt ∧ (v7 + (1 : Int32)).toInt ≤ 14 ∧ 14 - (v7 + (1 : Int32)).toInt < (n : Int) by omega) ki77 kf87
          · refine s_lt (fun kh88 => ?_) (fun kh88 => ?_)
            · have kx89 : 0 ≤ (v7).toInt ∧ (v7).toInt < (14 : Int) := by omega
              refine s_ix kx89 ?_
              refine s_ix kx89 ?_
              have kc90 := L20
              have kc91 : ((v6).toInt < ((20 : Int32)).toInt ∧ (if v6 < (20 : Int32) then v6 else (20 : Int32)).toInt = (v6).toInt) ∨ (((20 : Int32)).toInt ≤ (v6).toInt ∧ (if v6 < (20 : Int32) then v6 else (20 : Int32)).toInt = ((20 : Int32)).toInt) := a_ilt
              have kc92 : (((1 : Int32)).toInt < ((if v6 < (20 : Int32) then v6 else (20 : Int32))).toInt ∧ (if (1 : Int32) < (if v6 < (20 : Int32) then v6 else (20 : Int32)) then (if v6 < (20 : Int32) then v6 else (20 : Int32)) else (1 : Int32)).toInt = ((if v6 < (20 : Int32) then v6 else (20 : Int32))).toInt) ∨ (((if v6 < (20 : Int32) then v6 else (20 : Int32))).toInt ≤ ((1 : Int32)).toInt ∧ (if (1 : Int32) < (if v6 < (20 : Int32) then v6 else (20 : Int32)) then (if v6 < (20 : Int32) then v6 else (20 : Int32)) else (1 : Int32)).toInt = ((1 : Int32)).toInt) := a_ilt
              have ki93 : zI (sm_w1 m 78 (v7).toNatClampNeg (if (1 : Int32) < (if v6 < (20 : Int32) then v6 else (20 : Int32)) then (if v6 < (20 : Int32) then v6 else (20 : Int32)) else (1 : Int32))) := zI.w78 hI (show (-1 : Int) ≤ ((if (1 : Int32) < (if v6 < (20 : Int32) then v6 else (20 : Int32)) then (if v6 < (20 : Int32) then v6 else (20 : Int32)) else (1 : Int32))).toInt ∧ ((if (1 : Int32) < (if v6 < (20 : Int32) then v6 else (20 : Int32)) then (if v6 < (20 : Int32) then v6 else (20 : Int32)) else (1 : Int32))).toInt ≤ 20 by omega) (show 1 ≤ ((if (1 : Int32) < (if v6 < (20 : Int32) then v6 else (20 : Int32)) then (if v6 < (20 : Int32) then v6 else (20 : Int32)) else (1 : Int32))).toInt ∨ (m.1 72 25).toInt ≤ (v7).toInt by omega) (show 0 ≤ (v7).toInt by omega)
              have kc94 : (-1 : Int) ≤ ((sm_w1 m 78 (v7).toNatClampNeg (if (1 : Int32) < (if v6 < (20 : Int32) then v6 else (20 : Int32)) then (if v6 < (20 : Int32) then v6 else (20 : Int32)) else (1 : Int32))).1 78 (v7).toNatClampNeg).toInt ∧ ((sm_w1 m 78 (v7).toNatClampNeg (if (1 : Int32) < (if v6 < (20 : Int32) then v6 else (20 : Int32)) then (if v6 < (20 : Int32) then v6 else (20 : Int32)) else (1 : Int32))).1 78 (v7).toNatClampNeg).toInt ≤ 20 := ki93.1 78 (v7).toNatClampNeg
              have kc95 : 0 ≤ ((sm_w1 m 78 (v7).toNatClampNeg (if (1 : Int32) < (if v6 < (20 : Int32) then v6 else (20 : Int32)) then (if v6 < (20 : Int32) then v6 else (20 : Int32)) else (1 : Int32))).1 72 6).toInt ∧ ((sm_w1 m 78 (v7).toNatClampNeg (if (1 : Int32) < (if v6 < (20 : Int32) then v6 else (20 : Int32)) then (if v6 < (20 : Int32) then v6 else (20 : Int32)) else (1 : Int32))).1 72 6).toInt ≤ 14 := ki93.1 72 6
              have kc96 : 0 ≤ ((sm_w1 m 78 (v7).toNatClampNeg (if (1 : Int32) < (if v6 < (20 : Int32) then v6 else (20 : Int32)) then (if v6 < (20 : Int32) then v6 else (20 : Int32)) else (1 : Int32))).1 72 25).toInt ∧ ((sm_w1 m 78 (v7).toNatClampNeg (if (1 : Int32) < (if v6 < (20 : Int32) then v6 else (20 : Int32)) then (if v6 < (20 : Int32) then v6 else (20 : Int32)) else (1 : Int32))).1 72 25).toInt ≤ 14 := ki93.1 72 25
              have kc97 := zI.le ki93
              have kc98 : ((sm_w1 m 78 (v7).toNatClampNeg (if (1 : Int32) < (if v6 < (20 : Int32) then v6 else (20 : Int32)) then (if v6 < (20 : Int32) then v6 else (20 : Int32)) else (1 : Int32))).1 72 25).toInt = (m.1 72 25).toInt := congrArg Int32.toInt (r_cell (by decide))
              have kc99 : ((sm_w1 m 78 (v7).toNatClampNeg (if (1 : Int32) < (if v6 < (20 : Int32) then v6 else (20 : Int32)) then (if v6 < (20 : Int32) then v6 else (20 : Int32)) else (1 : Int32))).1 72 6).toInt = (m.1 72 6).toInt := congrArg Int32.toInt (r_cell (by decide))
              have kc100 : 1 ≤ ((sm_w1 m 78 (v7).toNatClampNeg (if (1 : Int32) < (if v6 < (20 : Int32) then v6 else (20 : Int32)) then (if v6 < (20 : Int32) then v6 else (20 : Int32)) else (1 : Int32))).1 78 (v7).toNatClampNeg).toInt := zI.pf78 ki93 v7 (by omega) (by omega)
              have kc101 : ((sm_w1 m 78 (v7).toNatClampNeg (if (1 : Int32) < (if v6 < (20 : Int32) then v6 else (20 : Int32)) then (if v6 < (20 : Int32) then v6 else (20 : Int32)) else (1 : Int32))).1 78 (v7).toNatClampNeg).toInt = ((if (1 : Int32) < (if v6 < (20 : Int32) then v6 else (20 : Int32)) then (if v6 < (20 : Int32) then v6 else (20 : Int32)) else (1 : Int32))).toInt := congrArg Int32.toInt r_hit
              have kc102 : (v7 + (1 : Int32)).toInt = (v7).toInt + 1 := a_addl L1 (by omega) (by omega)
              have kf103 : Fr wX12_sheet m0 (sm_w1 m 78 (v7).toNatClampNeg (if (1 : Int32) < (if v6 < (20 : Int32) then v6 else (20 : Int32)) then (if v6 < (20 : Int32) then v6 else (20 : Int32)) else (1 : Int32))) := Fr.w hF rfl
              exact ih v1 v2 v4 (v5 + ((sm_w1 m 78 (v7).toNatClampNeg (if (1 : Int32) < (if v6 < (20 : Int32) then v6 else (20 : Int32)) then (if v6 < (20 : Int32) then v6 else (20 : Int32)) else (1 : Int32))).1 78 (v7).toNatClampNeg)) (v6 + v4) (v7 + (1 : Int32)) (sm_w1 m 78 (v7).toNatClampNeg (if (1 : Int32) < (if v6 < (20 : Int32) then v6 else (20 : Int32)) then (if v6 < (20 : Int32) then v6 else (20 : Int32)) else (1 : Int32))) (show 0 ≤ v1.toInt ∧ v1.toInt ≤ 3 ∧ v2.toInt ≤ 14 ∧ 0 ≤ (v7 + (1 : Int32)).toInt ∧ (v7 + (1 : Int32)).toInt ≤ 14 ∧ 14 - (v7 + (1 : Int32)).toInt < (n : Int) by omega) ki93 kf103
            · have kx104 : 0 ≤ (v7).toInt ∧ (v7).toInt < (14 : Int) := by omega
              refine s_ix kx104 ?_
              refine s_ix kx104 ?_
              have ki105 : zI (sm_w1 m 78 (v7).toNatClampNeg (1 : Int32)) := zI.w78 hI (show (-1 : Int) ≤ ((1 : Int32)).toInt ∧ ((1 : Int32)).toInt ≤ 20 by omega) (show 1 ≤ ((1 : Int32)).toInt ∨ (m.1 72 25).toInt ≤ (v7).toInt by omega) (show 0 ≤ (v7).toInt by omega)
              have kc106 : (-1 : Int) ≤ ((sm_w1 m 78 (v7).toNatClampNeg (1 : Int32)).1 78 (v7).toNatClampNeg).toInt ∧ ((sm_w1 m 78 (v7).toNatClampNeg (1 : Int32)).1 78 (v7).toNatClampNeg).toInt ≤ 20 := ki105.1 78 (v7).toNatClampNeg
              have kc107 : 0 ≤ ((sm_w1 m 78 (v7).toNatClampNeg (1 : Int32)).1 72 6).toInt ∧ ((sm_w1 m 78 (v7).toNatClampNeg (1 : Int32)).1 72 6).toInt ≤ 14 := ki105.1 72 6
              have kc108 : 0 ≤ ((sm_w1 m 78 (v7).toNatClampNeg (1 : Int32)).1 72 25).toInt ∧ ((sm_w1 m 78 (v7).toNatClampNeg (1 : Int32)).1 72 25).toInt ≤ 14 := ki105.1 72 25
              have kc109 := zI.le ki105
              have kc110 : ((sm_w1 m 78 (v7).toNatClampNeg (1 : Int32)).1 72 25).toInt = (m.1 72 25).toInt := congrArg Int32.toInt (r_cell (by decide))
              have kc111 : ((sm_w1 m 78 (v7).toNatClampNeg (1 : Int32)).1 72 6).toInt = (m.1 72 6).toInt := congrArg Int32.toInt (r_cell (by decide))
              have kc112 : 1 ≤ ((sm_w1 m 78 (v7).toNatClampNeg (1 : Int32)).1 78 (v7).toNatClampNeg).toInt := zI.pf78 ki105 v7 (by omega) (by omega)
              have kc113 : ((sm_w1 m 78 (v7).toNatClampNeg (1 : Int32)).1 78 (v7).toNatClampNeg).toInt = ((1 : Int32)).toInt := congrArg Int32.toInt r_hit
              have kc114 : (v7 + (1 : Int32)).toInt = (v7).toInt + 1 := a_addl L1 (by omega) (by omega)
              have kf115 : Fr wX12_sheet m0 (sm_w1 m 78 (v7).toNatClampNeg (1 : Int32)) := Fr.w hF rfl
              exact ih v1 v2 v4 (v5 + ((sm_w1 m 78 (v7).toNatClampNeg (1 : Int32)).1 78 (v7).toNatClampNeg)) (v6 + v4) (v7 + (1 : Int32)) (sm_w1 m 78 (v7).toNatClampNeg (1 : Int32)) (show 0 ≤ v1.toInt ∧ v1.toInt ≤ 3 ∧ v2.toInt ≤ 14 ∧ 0 ≤ (v7 + (1 : Int32)).toInt ∧ (v7 + (1 : Int32)).toInt ≤ 14 ∧ 14 - (v7 + (1 : Int32)).toInt < (n : Int) by omega) ki105 kf115
theorem zX12_sheet (x1 : Int32) (x2 : Int32) (x3 : Int32) (x4 : Int32) (m : sm_S) (hI : zI m) : Sf (fun r => (True) ∧ zI r.2 ∧ Fr wX12_sheet m r.2) (fX12_sheet x1 x2 x3 x4 m) := by
  have hfu := fuE
  unfold fX12_sheet
  have kc1 : (x1).toInt64.toInt = (x1).toInt := Int32.toInt_toInt64 _
  have kc2 := LL0
  have kc3 := LL3
  have kc4 := L0
  have ki5 : zI (sm_w1 m 72 0 (0 : Int32)) := zI.w hI rfl (show 0 ≤ ((0 : Int32)).toInt ∧ ((0 : Int32)).toInt ≤ 1 by omega)
  refine s_bd (zX12_in (x1).toInt64 (0 : Int64) (3 : Int64) (sm_w1 m 72 0 (0 : Int32)) (show (-1 : Int) ≤ (0 : Int64).toInt ∧ (0 : Int64).toInt ≤ 48 ∧ (-1 : Int) ≤ (3 : Int64).toInt ∧ (3 : Int64).toInt ≤ 9999 by omega) ki5) (fun r2 kr6 => ?_)
  replace kr6 : (0 ≤ r2.toInt) ∧ (r2.toInt ≤ 1) ∧ ((r2.toInt = 0 ∧ ((x1).toInt64.toInt < (0 : Int64).toInt ∨ (3 : Int64).toInt < (x1).toInt64.toInt)) ∨ (r2.toInt = 1 ∧ (0 : Int64).toInt ≤ (x1).toInt64.toInt ∧ (x1).toInt64.toInt ≤ (3 : Int64).toInt)) := kr6
  refine s_eq (fun kh7 => ?_) (fun kh7 => ?_)
  · have kc8 := Ln1
    have kf9 : Fr wX12_sheet m (sm_w1 m 72 0 (0 : Int32)) := Fr.w Fr.refl rfl
    exact s_ret ⟨trivial, ki5, kf9⟩
  · have kc10 := L14
    refine s_le (fun kh11 => ?_) (fun kh11 => ?_)
    · have kc12 := L3
      refine s_eq (fun kh13 => ?_) (fun kh13 => ?_)
      · have kf14 : Fr wX12_sheet m (sm_w1 m 72 0 (0 : Int32)) := Fr.w Fr.refl rfl
        exact zX12_sheet_46 m sm_fu x1 x2 x4 (0 : Int32) x3 (0 : Int32) (sm_w1 m 72 0 (0 : Int32)) (show 0 ≤ x1.toInt ∧ x1.toInt ≤ 3 ∧ x2.toInt ≤ 14 ∧ 0 ≤ (0 : Int32).toInt ∧ (0 : Int32).toInt ≤ 14 ∧ 14 - (0 : Int32).toInt < (sm_fu : Int) by omega) ki5 kf14
      · refine s_le (fun kh15 => ?_) (fun kh15 => ?_)
        · have kf16 : Fr wX12_sheet m (sm_w1 m 72 0 (0 : Int32)) := Fr.w Fr.refl rfl
          exact zX12_sheet_46 m sm_fu x1 x2 x4 (0 : Int32) x3 (0 : Int32) (sm_w1 m 72 0 (0 : Int32)) (show 0 ≤ x1.toInt ∧ x1.toInt ≤ 3 ∧ x2.toInt ≤ 14 ∧ 0 ≤ (0 : Int32).toInt ∧ (0 : Int32).toInt ≤ 14 ∧ 14 - (0 : Int32).toInt < (sm_fu : Int) by omega) ki5 kf16
        · have kc17 := Ln2
          have kf18 : Fr wX12_sheet m (sm_w1 m 72 0 (0 : Int32)) := Fr.w Fr.refl rfl
          exact s_ret ⟨trivial, ki5, kf18⟩
    · have kc19 := Ln1
      have kf20 : Fr wX12_sheet m (sm_w1 m 72 0 (0 : Int32)) := Fr.w Fr.refl rfl
      exact s_ret ⟨trivial, ki5, kf20⟩
theorem zX12_isEnd (x1 : Int32) (x2 : Int32) (m : sm_S) (hp : 0 ≤ x1.toInt ∧ x1.toInt ≤ 13 ∧ (-1 : Int) ≤ x2.toInt ∧ x2.toInt ≤ 9 ∧ x1.toInt < (m.1 72 6).toInt) (hI : zI m) : Sf (fun r => (0 ≤ r.toInt) ∧ (r.toInt ≤ 1)) (fX12_isEnd x1 x2 m) := by
  have hfu := fuE
  have kc1 : 0 ≤ (m.1 72 6).toInt ∧ (m.1 72 6).toInt ≤ 14 := hI.1 72 6
  have kc2 : 0 ≤ (m.1 72 25).toInt ∧ (m.1 72 25).toInt ≤ 14 := hI.1 72 25
  have kc3 := zI.le hI
  unfold fX12_isEnd
  have kx4 : 0 ≤ (x1).toInt ∧ (x1).toInt < (14 : Int) := by omega
  refine s_ix kx4 ?_
  have kc5 : (-1 : Int) ≤ (m.1 76 (x1).toNatClampNeg).toInt ∧ (m.1 76 (x1).toNatClampNeg).toInt ≤ 9 := hI.1 76 (x1).toNatClampNeg
  have kc6 : 0 ≤ (m.1 76 (x1).toNatClampNeg).toInt := zI.pf76 hI x1 (by omega) (by omega)
  refine s_eq (fun kh7 => ?_) (fun kh7 => ?_)
  · have kc8 := L1
    exact s_ret (show (0 ≤ (1 : Int32).toInt) ∧ ((1 : Int32).toInt ≤ 1) by omega)
  · refine s_ix kx4 ?_
    have kc9 : (-1 : Int) ≤ (m.1 77 (x1).toNatClampNeg).toInt ∧ (m.1 77 (x1).toNatClampNeg).toInt ≤ 9 := hI.1 77 (x1).toNatClampNeg
    have kc10 : 0 ≤ (m.1 77 (x1).toNatClampNeg).toInt := zI.pf77 hI x1 (by omega) (by omega)
    refine s_eq (fun kh11 => ?_) (fun kh11 => ?_)
    · have kc12 := L1
      exact s_ret (show (0 ≤ (1 : Int32).toInt) ∧ ((1 : Int32).toInt ≤ 1) by omega)
    · have kc13 := L0
      exact s_ret (show (0 ≤ (0 : Int32).toInt) ∧ ((0 : Int32).toInt ≤ 1) by omega)
theorem zX12_minutesFrom (x1 : Int32) (x2 : Int32) (m : sm_S) (hp : 0 ≤ x1.toInt ∧ x1.toInt ≤ 13 ∧ (-1 : Int) ≤ x2.toInt ∧ x2.toInt ≤ 9 ∧ x1.toInt < (m.1 72 6).toInt) (hI : zI m) : Sf (fun r => (1 ≤ r.toInt) ∧ (r.toInt ≤ 29) ∧ ((x2.toInt = (m.1 76 x1.toNatClampNeg).toInt ∧ r.toInt = (m.1 78 x1.toNatClampNeg).toInt) ∨ (x2.toInt ≠ (m.1 76 x1.toNatClampNeg).toInt ∧ r.toInt = (m.1 78 x1.toNatClampNeg).toInt + (m.1 82 x1.toNatClampNeg).toInt))) (fX12_minutesFrom x1 x2 m) := by
  have hfu := fuE
  have kc1 : 0 ≤ (m.1 72 6).toInt ∧ (m.1 72 6).toInt ≤ 14 := hI.1 72 6
  have kc2 : 0 ≤ (m.1 72 25).toInt ∧ (m.1 72 25).toInt ≤ 14 := hI.1 72 25
  have kc3 := zI.le hI
  unfold fX12_minutesFrom
  have kx4 : 0 ≤ (x1).toInt ∧ (x1).toInt < (14 : Int) := by omega
  refine s_ix kx4 ?_
  refine s_ix kx4 ?_
  have kc5 : (-1 : Int) ≤ (m.1 76 (x1).toNatClampNeg).toInt ∧ (m.1 76 (x1).toNatClampNeg).toInt ≤ 9 := hI.1 76 (x1).toNatClampNeg
  have kc6 : 0 ≤ (m.1 76 (x1).toNatClampNeg).toInt := zI.pf76 hI x1 (by omega) (by omega)
  refine s_eq (fun kh7 => ?_) (fun kh7 => ?_)
  · have kc8 : (-1 : Int) ≤ (m.1 78 (x1).toNatClampNeg).toInt ∧ (m.1 78 (x1).toNatClampNeg).toInt ≤ 20 := hI.1 78 (x1).toNatClampNeg
    have kc9 : 1 ≤ (m.1 78 (x1).toNatClampNeg).toInt := zI.pf78 hI x1 (by omega) (by omega)
    have kc10 : ((m.1 78 (x1).toNatClampNeg) + (0 : Int32)).toInt = ((m.1 78 (x1).toNatClampNeg)).toInt + 0 := a_addl L0 (by omega) (by omega)
    have kc11 : (-1 : Int) ≤ (m.1 82 (x1).toNatClampNeg).toInt ∧ (m.1 82 (x1).toNatClampNeg).toInt ≤ 9 := hI.1 82 (x1).toNatClampNeg
    have kc12 : 0 ≤ (m.1 82 (x1).toNatClampNeg).toInt := zI.pf82 hI x1 (by omega) (by omega)
    exact s_ret (show (1 ≤ ((m.1 78 (x1).toNatClampNeg) + (0 : Int32)).toInt) ∧ (((m.1 78 (x1).toNatClampNeg) + (0 : Int32)).toInt ≤ 29) ∧ ((x2.toInt = (m.1 76 x1.toNatClampNeg).toInt ∧ ((m.1 78 (x1).toNatClampNeg) + (0 : Int32)).toInt = (m.1 78 x1.toNatClampNeg).toInt) ∨ (x2.toInt ≠ (m.1 76 x1.toNatClampNeg).toInt ∧ ((m.1 78 (x1).toNatClampNeg) + (0 : Int32)).toInt = (m.1 78 x1.toNatClampNeg).toInt + (m.1 82 x1.toNatClampNeg).toInt)) by omega)
  · refine s_ix kx4 ?_
    have kc13 : (-1 : Int) ≤ (m.1 78 (x1).toNatClampNeg).toInt ∧ (m.1 78 (x1).toNatClampNeg).toInt ≤ 20 := hI.1 78 (x1).toNatClampNeg
    have kc14 : 1 ≤ (m.1 78 (x1).toNatClampNeg).toInt := zI.pf78 hI x1 (by omega) (by omega)
    have kc15 : (-1 : Int) ≤ (m.1 82 (x1).toNatClampNeg).toInt ∧ (m.1 82 (x1).toNatClampNeg).toInt ≤ 9 := hI.1 82 (x1).toNatClampNeg
    have kc16 : 0 ≤ (m.1 82 (x1).toNatClampNeg).toInt := zI.pf82 hI x1 (by omega) (by omega)
    have kc17 : ((m.1 78 (x1).toNatClampNeg) + (m.1 82 (x1).toNatClampNeg)).toInt = ((m.1 78 (x1).toNatClampNeg)).toInt + ((m.1 82 (x1).toNatClampNeg)).toInt := a_add (by omega) (by omega)
    exact s_ret (show (1 ≤ ((m.1 78 (x1).toNatClampNeg) + (m.1 82 (x1).toNatClampNeg)).toInt) ∧ (((m.1 78 (x1).toNatClampNeg) + (m.1 82 (x1).toNatClampNeg)).toInt ≤ 29) ∧ ((x2.toInt = (m.1 76 x1.toNatClampNeg).toInt ∧ ((m.1 78 (x1).toNatClampNeg) + (m.1 82 (x1).toNatClampNeg)).toInt = (m.1 78 x1.toNatClampNeg).toInt) ∨ (x2.toInt ≠ (m.1 76 x1.toNatClampNeg).toInt ∧ ((m.1 78 (x1).toNatClampNeg) + (m.1 82 (x1).toNatClampNeg)).toInt = (m.1 78 x1.toNatClampNeg).toInt + (m.1 82 x1.toNatClampNeg).toInt)) by omega)
theorem zX12_isLight (x1 : Int32) (m : sm_S) (hp : 0 ≤ x1.toInt ∧ x1.toInt ≤ 9999) (hI : zI m) : Sf (fun r => (0 ≤ r.toInt) ∧ (r.toInt ≤ 1)) (fX12_isLight x1 m) := by
  have hfu := fuE
  unfold fX12_isLight
  have kc1 := L40
  have kc2 := L60
  have kc3 : (x1 / (60 : Int32)).toInt = (x1).toInt / 60 := (a_div (by omega) (by omega)).trans (congrArg (fun z => (x1).toInt / z) L60)
  have kc4 : ((x1 / (60 : Int32)) * (60 : Int32)).toInt = ((x1 / (60 : Int32))).toInt * 60 := a_mul rfl L60 (by omega) (by omega)
  have kc5 : (x1 - ((x1 / (60 : Int32)) * (60 : Int32))).toInt = (x1).toInt - (((x1 / (60 : Int32)) * (60 : Int32))).toInt := a_sub (by omega) (by omega)
  refine s_le (fun kh6 => ?_) (fun kh6 => ?_)
  · have kc7 := L0
    exact s_ret (show (0 ≤ (0 : Int32).toInt) ∧ ((0 : Int32).toInt ≤ 1) by omega)
  · have kc8 := L1
    exact s_ret (show (0 ≤ (1 : Int32).toInt) ∧ ((1 : Int32).toInt ≤ 1) by omega)
theorem zX12_whyNot (x1 : Int32) (m : sm_S) (hp : 0 ≤ x1.toInt ∧ x1.toInt ≤ 13 ∧ x1.toInt < (m.1 72 6).toInt) (hI : zI m) : Sf (fun r => ((-5 : Int) ≤ r.toInt) ∧ (r.toInt ≤ 0) ∧ (r.toInt < 0 ∨ (((m.1 72 17).toInt = (m.1 76 x1.toNatClampNeg).toInt ∧ (m.1 72 18).toInt + (m.1 78 x1.toNatClampNeg).toInt ≤ (m.1 72 16).toInt) ∨ ((m.1 72 17).toInt ≠ (m.1 76 x1.toNatClampNeg).toInt ∧ (m.1 72 18).toInt + (m.1 78 x1.toNatClampNeg).toInt + (m.1 82 x1.toNatClampNeg).toInt ≤ (m.1 72 16).toInt)))) (fX12_whyNot x1 m) := by
  have hfu := fuE
  have kc1 : 0 ≤ (m.1 72 6).toInt ∧ (m.1 72 6).toInt ≤ 14 := hI.1 72 6
  have kc2 : 0 ≤ (m.1 72 25).toInt ∧ (m.1 72 25).toInt ≤ 14 := hI.1 72 25
  have kc3 := zI.le hI
  unfold fX12_whyNot
  have kc4 : 0 ≤ (m.1 72 17).toInt ∧ (m.1 72 17).toInt ≤ 9 := hI.1 72 17
  refine s_bd (zX12_isEnd x1 (m.1 72 17) m (show 0 ≤ x1.toInt ∧ x1.toInt ≤ 13 ∧ (-1 : Int) ≤ (m.1 72 17).toInt ∧ (m.1 72 17).toInt ≤ 9 ∧ x1.toInt < (m.1 72 6).toInt by omega) hI) (fun r2 kr5 => ?_)
  replace kr5 : (0 ≤ r2.toInt) ∧ (r2.toInt ≤ 1) := kr5
  have kc6 := L0
  refine s_eq (fun kh7 => ?_) (fun kh7 => ?_)
  · have kc8 := Ln2
    have kc9 : 0 ≤ (m.1 72 18).toInt ∧ (m.1 72 18).toInt ≤ 9999 := hI.1 72 18
    have kc10 : 0 ≤ (m.1 72 16).toInt ∧ (m.1 72 16).toInt ≤ 9999 := hI.1 72 16
    have kc11 : (-1 : Int) ≤ (m.1 76 (x1).toNatClampNeg).toInt ∧ (m.1 76 (x1).toNatClampNeg).toInt ≤ 9 := hI.1 76 (x1).toNatClampNeg
    have kc12 : 0 ≤ (m.1 76 (x1).toNatClampNeg).toInt := zI.pf76 hI x1 (by omega) (by omega)
    have kc13 : (-1 : Int) ≤ (m.1 78 (x1).toNatClampNeg).toInt ∧ (m.1 78 (x1).toNatClampNeg).toInt ≤ 20 := hI.1 78 (x1).toNatClampNeg
    have kc14 : 1 ≤ (m.1 78 (x1).toNatClampNeg).toInt := zI.pf78 hI x1 (by omega) (by omega)
    have kc15 : (-1 : Int) ≤ (m.1 82 (x1).toNatClampNeg).toInt ∧ (m.1 82 (x1).toNatClampNeg).toInt ≤ 9 := hI.1 82 (x1).toNatClampNeg
    have kc16 : 0 ≤ (m.1 82 (x1).toNatClampNeg).toInt := zI.pf82 hI x1 (by omega) (by omega)
    exact s_ret (show ((-5 : Int) ≤ (-2 : Int32).toInt) ∧ ((-2 : Int32).toInt ≤ 0) ∧ ((-2 : Int32).toInt < 0 ∨ (((m.1 72 17).toInt = (m.1 76 x1.toNatClampNeg).toInt ∧ (m.1 72 18).toInt + (m.1 78 x1.toNatClampNeg).toInt ≤ (m.1 72 16).toInt) ∨ ((m.1 72 17).toInt ≠ (m.1 76 x1.toNatClampNeg).toInt ∧ (m.1 72 18).toInt + (m.1 78 x1.toNatClampNeg).toInt + (m.1 82 x1.toNatClampNeg).toInt ≤ (m.1 72 16).toInt))) by omega)
  · have kc17 : 0 ≤ (m.1 72 18).toInt ∧ (m.1 72 18).toInt ≤ 9999 := hI.1 72 18
    refine s_bd (zX12_isFresh x1 (m.1 72 18) m (show 0 ≤ x1.toInt ∧ x1.toInt ≤ 13 ∧ 0 ≤ (m.1 72 18).toInt ∧ (m.1 72 18).toInt ≤ 9999 ∧ x1.toInt < (m.1 72 6).toInt by omega) hI) (fun r4 kr18 => ?_)
    replace kr18 : (0 ≤ r4.toInt) ∧ (r4.toInt ≤ 1) := kr18
    refine s_eq (fun kh19 => ?_) (fun kh19 => ?_)
    · have kc20 := Ln3
      have kc21 : 0 ≤ (m.1 72 16).toInt ∧ (m.1 72 16).toInt ≤ 9999 := hI.1 72 16
      have kc22 : (-1 : Int) ≤ (m.1 76 (x1).toNatClampNeg).toInt ∧ (m.1 76 (x1).toNatClampNeg).toInt ≤ 9 := hI.1 76 (x1).toNatClampNeg
      have kc23 : 0 ≤ (m.1 76 (x1).toNatClampNeg).toInt := zI.pf76 hI x1 (by omega) (by omega)
      have kc24 : (-1 : Int) ≤ (m.1 78 (x1).toNatClampNeg).toInt ∧ (m.1 78 (x1).toNatClampNeg).toInt ≤ 20 := hI.1 78 (x1).toNatClampNeg
      have kc25 : 1 ≤ (m.1 78 (x1).toNatClampNeg).toInt := zI.pf78 hI x1 (by omega) (by omega)
      have kc26 : (-1 : Int) ≤ (m.1 82 (x1).toNatClampNeg).toInt ∧ (m.1 82 (x1).toNatClampNeg).toInt ≤ 9 := hI.1 82 (x1).toNatClampNeg
      have kc27 : 0 ≤ (m.1 82 (x1).toNatClampNeg).toInt := zI.pf82 hI x1 (by omega) (by omega)
      exact s_ret (show ((-5 : Int) ≤ (-3 : Int32).toInt) ∧ ((-3 : Int32).toInt ≤ 0) ∧ ((-3 : Int32).toInt < 0 ∨ (((m.1 72 17).toInt = (m.1 76 x1.toNatClampNeg).toInt ∧ (m.1 72 18).toInt + (m.1 78 x1.toNatClampNeg).toInt ≤ (m.1 72 16).toInt) ∨ ((m.1 72 17).toInt ≠ (m.1 76 x1.toNatClampNeg).toInt ∧ (m.1 72 18).toInt + (m.1 78 x1.toNatClampNeg).toInt + (m.1 82 x1.toNatClampNeg).toInt ≤ (m.1 72 16).toInt))) by omega)
    · have kc28 : 0 ≤ (m.1 72 14).toInt ∧ (m.1 72 14).toInt ≤ 16383 := hI.1 72 14
      refine s_bd (zX12_has (m.1 72 14) x1 m (show 0 ≤ (m.1 72 14).toInt ∧ (m.1 72 14).toInt ≤ 16383 ∧ 0 ≤ x1.toInt ∧ x1.toInt ≤ 13 by omega) hI) (fun r6 kr29 => ?_)
      replace kr29 : (0 ≤ r6.toInt) ∧ (r6.toInt ≤ 1) := kr29
      refine s_eq (fun kh30 => ?_) (fun kh30 => ?_)
      · refine s_bd (zX12_minutesFrom x1 (m.1 72 17) m (show 0 ≤ x1.toInt ∧ x1.toInt ≤ 13 ∧ (-1 : Int) ≤ (m.1 72 17).toInt ∧ (m.1 72 17).toInt ≤ 9 ∧ x1.toInt < (m.1 72 6).toInt by omega) hI) (fun r8 kr31 => ?_)
        replace kr31 : (1 ≤ r8.toInt) ∧ (r8.toInt ≤ 29) ∧ (((m.1 72 17).toInt = (m.1 76 x1.toNatClampNeg).toInt ∧ r8.toInt = (m.1 78 x1.toNatClampNeg).toInt) ∨ ((m.1 72 17).toInt ≠ (m.1 76 x1.toNatClampNeg).toInt ∧ r8.toInt = (m.1 78 x1.toNatClampNeg).toInt + (m.1 82 x1.toNatClampNeg).toInt)) := kr31
        have kc32 : (-1 : Int) ≤ (m.1 76 (x1).toNatClampNeg).toInt ∧ (m.1 76 (x1).toNatClampNeg).toInt ≤ 9 := hI.1 76 (x1).toNatClampNeg
        have kc33 : 0 ≤ (m.1 76 (x1).toNatClampNeg).toInt := zI.pf76 hI x1 (by omega) (by omega)
        have kc34 : (-1 : Int) ≤ (m.1 78 (x1).toNatClampNeg).toInt ∧ (m.1 78 (x1).toNatClampNeg).toInt ≤ 20 := hI.1 78 (x1).toNatClampNeg
        have kc35 : 1 ≤ (m.1 78 (x1).toNatClampNeg).toInt := zI.pf78 hI x1 (by omega) (by omega)
        have kc36 : (-1 : Int) ≤ (m.1 82 (x1).toNatClampNeg).toInt ∧ (m.1 82 (x1).toNatClampNeg).toInt ≤ 9 := hI.1 82 (x1).toNatClampNeg
        have kc37 : 0 ≤ (m.1 82 (x1).toNatClampNeg).toInt := zI.pf82 hI x1 (by omega) (by omega)
        have kc38 : ((m.1 72 18) + r8).toInt = ((m.1 72 18)).toInt + (r8).toInt := a_add (by omega) (by omega)
        have kc39 : 0 ≤ (m.1 72 16).toInt ∧ (m.1 72 16).toInt ≤ 9999 := hI.1 72 16
        refine s_le (fun kh40 => ?_) (fun kh40 => ?_)
        · exact s_ret (show ((-5 : Int) ≤ (0 : Int32).toInt) ∧ ((0 : Int32).toInt ≤ 0) ∧ ((0 : Int32).toInt < 0 ∨ (((m.1 72 17).toInt = (m.1 76 x1.toNatClampNeg).toInt ∧ (m.1 72 18).toInt + (m.1 78 x1.toNatClampNeg).toInt ≤ (m.1 72 16).toInt) ∨ ((m.1 72 17).toInt ≠ (m.1 76 x1.toNatClampNeg).toInt ∧ (m.1 72 18).toInt + (m.1 78 x1.toNatClampNeg).toInt + (m.1 82 x1.toNatClampNeg).toInt ≤ (m.1 72 16).toInt))) by omega)
        · have kc41 := Ln5
          exact s_ret (show ((-5 : Int) ≤ (-5 : Int32).toInt) ∧ ((-5 : Int32).toInt ≤ 0) ∧ ((-5 : Int32).toInt < 0 ∨ (((m.1 72 17).toInt = (m.1 76 x1.toNatClampNeg).toInt ∧ (m.1 72 18).toInt + (m.1 78 x1.toNatClampNeg).toInt ≤ (m.1 72 16).toInt) ∨ ((m.1 72 17).toInt ≠ (m.1 76 x1.toNatClampNeg).toInt ∧ (m.1 72 18).toInt + (m.1 78 x1.toNatClampNeg).toInt + (m.1 82 x1.toNatClampNeg).toInt ≤ (m.1 72 16).toInt))) by omega)
      · refine s_bd (zX12_isLight (m.1 72 18) m (show 0 ≤ (m.1 72 18).toInt ∧ (m.1 72 18).toInt ≤ 9999 by omega) hI) (fun r10 kr42 => ?_)
        replace kr42 : (0 ≤ r10.toInt) ∧ (r10.toInt ≤ 1) := kr42
        refine s_eq (fun kh43 => ?_) (fun kh43 => ?_)
        · have kc44 := Ln4
          have kc45 : 0 ≤ (m.1 72 16).toInt ∧ (m.1 72 16).toInt ≤ 9999 := hI.1 72 16
          have kc46 : (-1 : Int) ≤ (m.1 76 (x1).toNatClampNeg).toInt ∧ (m.1 76 (x1).toNatClampNeg).toInt ≤ 9 := hI.1 76 (x1).toNatClampNeg
          have kc47 : 0 ≤ (m.1 76 (x1).toNatClampNeg).toInt := zI.pf76 hI x1 (by omega) (by omega)
          have kc48 : (-1 : Int) ≤ (m.1 78 (x1).toNatClampNeg).toInt ∧ (m.1 78 (x1).toNatClampNeg).toInt ≤ 20 := hI.1 78 (x1).toNatClampNeg
          have kc49 : 1 ≤ (m.1 78 (x1).toNatClampNeg).toInt := zI.pf78 hI x1 (by omega) (by omega)
          have kc50 : (-1 : Int) ≤ (m.1 82 (x1).toNatClampNeg).toInt ∧ (m.1 82 (x1).toNatClampNeg).toInt ≤ 9 := hI.1 82 (x1).toNatClampNeg
          have kc51 : 0 ≤ (m.1 82 (x1).toNatClampNeg).toInt := zI.pf82 hI x1 (by omega) (by omega)
          exact s_ret (show ((-5 : Int) ≤ (-4 : Int32).toInt) ∧ ((-4 : Int32).toInt ≤ 0) ∧ ((-4 : Int32).toInt < 0 ∨ (((m.1 72 17).toInt = (m.1 76 x1.toNatClampNeg).toInt ∧ (m.1 72 18).toInt + (m.1 78 x1.toNatClampNeg).toInt ≤ (m.1 72 16).toInt) ∨ ((m.1 72 17).toInt ≠ (m.1 76 x1.toNatClampNeg).toInt ∧ (m.1 72 18).toInt + (m.1 78 x1.toNatClampNeg).toInt + (m.1 82 x1.toNatClampNeg).toInt ≤ (m.1 72 16).toInt))) by omega)
        · refine s_bd (zX12_minutesFrom x1 (m.1 72 17) m (show 0 ≤ x1.toInt ∧ x1.toInt ≤ 13 ∧ (-1 : Int) ≤ (m.1 72 17).toInt ∧ (m.1 72 17).toInt ≤ 9 ∧ x1.toInt < (m.1 72 6).toInt by omega) hI) (fun r12 kr52 => ?_)
          replace kr52 : (1 ≤ r12.toInt) ∧ (r12.toInt ≤ 29) ∧ (((m.1 72 17).toInt = (m.1 76 x1.toNatClampNeg).toInt ∧ r12.toInt = (m.1 78 x1.toNatClampNeg).toInt) ∨ ((m.1 72 17).toInt ≠ (m.1 76 x1.toNatClampNeg).toInt ∧ r12.toInt = (m.1 78 x1.toNatClampNeg).toInt + (m.1 82 x1.toNatClampNeg).toInt)) := kr52
          have kc53 : (-1 : Int) ≤ (m.1 76 (x1).toNatClampNeg).toInt ∧ (m.1 76 (x1).toNatClampNeg).toInt ≤ 9 := hI.1 76 (x1).toNatClampNeg
          have kc54 : 0 ≤ (m.1 76 (x1).toNatClampNeg).toInt := zI.pf76 hI x1 (by omega) (by omega)
          have kc55 : (-1 : Int) ≤ (m.1 78 (x1).toNatClampNeg).toInt ∧ (m.1 78 (x1).toNatClampNeg).toInt ≤ 20 := hI.1 78 (x1).toNatClampNeg
          have kc56 : 1 ≤ (m.1 78 (x1).toNatClampNeg).toInt := zI.pf78 hI x1 (by omega) (by omega)
          have kc57 : (-1 : Int) ≤ (m.1 82 (x1).toNatClampNeg).toInt ∧ (m.1 82 (x1).toNatClampNeg).toInt ≤ 9 := hI.1 82 (x1).toNatClampNeg
          have kc58 : 0 ≤ (m.1 82 (x1).toNatClampNeg).toInt := zI.pf82 hI x1 (by omega) (by omega)
          have kc59 : ((m.1 72 18) + r12).toInt = ((m.1 72 18)).toInt + (r12).toInt := a_add (by omega) (by omega)
          have kc60 : 0 ≤ (m.1 72 16).toInt ∧ (m.1 72 16).toInt ≤ 9999 := hI.1 72 16
          refine s_le (fun kh61 => ?_) (fun kh61 => ?_)
          · exact s_ret (show ((-5 : Int) ≤ (0 : Int32).toInt) ∧ ((0 : Int32).toInt ≤ 0) ∧ ((0 : Int32).toInt < 0 ∨ (((m.1 72 17).toInt = (m.1 76 x1.toNatClampNeg).toInt ∧ (m.1 72 18).toInt + (m.1 78 x1.toNatClampNeg).toInt ≤ (m.1 72 16).toInt) ∨ ((m.1 72 17).toInt ≠ (m.1 76 x1.toNatClampNeg).toInt ∧ (m.1 72 18).toInt + (m.1 78 x1.toNatClampNeg).toInt + (m.1 82 x1.toNatClampNeg).toInt ≤ (m.1 72 16).toInt))) by omega)
          · have kc62 := Ln5
            exact s_ret (show ((-5 : Int) ≤ (-5 : Int32).toInt) ∧ ((-5 : Int32).toInt ≤ 0) ∧ ((-5 : Int32).toInt < 0 ∨ (((m.1 72 17).toInt = (m.1 76 x1.toNatClampNeg).toInt ∧ (m.1 72 18).toInt + (m.1 78 x1.toNatClampNeg).toInt ≤ (m.1 72 16).toInt) ∨ ((m.1 72 17).toInt ≠ (m.1 76 x1.toNatClampNeg).toInt ∧ (m.1 72 18).toInt + (m.1 78 x1.toNatClampNeg).toInt + (m.1 82 x1.toNatClampNeg).toInt ≤ (m.1 72 16).toInt))) by omega)
theorem zX12_putsBy_11 (m0 : sm_S) : ∀ (n : Nat) (v1 : Int32) (v2 : Int32) (m : sm_S), (0 ≤ v1.toInt ∧ v1.toInt ≤ 13 ∧ 1 ≤ v2.toInt ∧ v2.toInt ≤ 30 ∧ v1.toInt < (m.1 72 6).toInt ∧ 30 - v2.toInt < (n : Int) ∧ (m.1 72 27).toInt = 30) → zI m → Fr wX12_putsBy m0 m → Sf (fun r => (True) ∧ zI r ∧ Fr wX12_putsBy m0 r) (fX12_putsBy_11 n v1 v2 m) := by
  intro n
  induction n with
  | zero =>
    intro v1 v2 m hp hI hF
    have kc1 : 0 ≤ (m.1 72 6).toInt ∧ (m.1 72 6).toInt ≤ 14 := hI.1 72 6
    have kc2 : 0 ≤ (m.1 72 25).toInt ∧ (m.1 72 25).toInt ≤ 14 := hI.1 72 25
    have kc3 := zI.le hI
    have kc4 : 0 ≤ (m.1 72 27).toInt ∧ (m.1 72 27).toInt ≤ 30 := hI.1 72 27
    exfalso
    omega
  | succ n ih =>
    intro v1 v2 m hp hI hF
    have hnn : ((n + 1 : Nat) : Int) = (n : Int) + 1 := by omega
    have hfu := fuE
    have kc1 : 0 ≤ (m.1 72 6).toInt ∧ (m.1 72 6).toInt ≤ 14 := hI.1 72 6
    have kc2 : 0 ≤ (m.1 72 25).toInt ∧ (m.1 72 25).toInt ≤ 14 := hI.1 72 25
    have kc3 := zI.le hI
    have kc4 : 0 ≤ (m.1 72 27).toInt ∧ (m.1 72 27).toInt ≤ 30 := hI.1 72 27
    unfold fX12_putsBy_11
    have kc5 := L30
    refine s_le (fun kh6 => ?_) (fun kh6 => ?_)
    · have kc7 : ((m.1 72 27) - (1 : Int32)).toInt = ((m.1 72 27)).toInt - 1 := a_subl L1 (by omega) (by omega)
      have kx8 : 0 ≤ (((m.1 72 27) - (1 : Int32))).toInt ∧ (((m.1 72 27) - (1 : Int32))).toInt < (30 : Int) := by omega
      refine s_ix kx8 ?_
      refine s_ix kx8 ?_
      refine s_ix kx8 ?_
      have kx9 : 0 ≤ (v1).toInt ∧ (v1).toInt < (14 : Int) := by omega
      refine s_ix kx9 ?_
      refine s_ix kx8 ?_
      have ki10 : zI (sm_w1 m 72 27 ((m.1 72 27) - (1 : Int32))) := zI.w hI rfl (show 0 ≤ (((m.1 72 27) - (1 : Int32))).toInt ∧ (((m.1 72 27) - (1 : Int32))).toInt ≤ 30 by omega)
      have ki11 : zI (sm_w1 (sm_w1 m 72 27 ((m.1 72 27) - (1 : Int32))) 85 (((m.1 72 27) - (1 : Int32))).toNatClampNeg v1) := zI.w ki10 rfl (show 0 ≤ (v1).toInt ∧ (v1).toInt ≤ 13 by omega)
      have kc12 : 0 ≤ (m.1 72 17).toInt ∧ (m.1 72 17).toInt ≤ 9 := hI.1 72 17
      have ki13 : zI (sm_w1 (sm_w1 (sm_w1 m 72 27 ((m.1 72 27) - (1 : Int32))) 85 (((m.1 72 27) - (1 : Int32))).toNatClampNeg v1) 86 (((m.1 72 27) - (1 : Int32))).toNatClampNeg (m.1 72 17)) := zI.w ki11 rfl (show 0 ≤ ((m.1 72 17)).toInt ∧ ((m.1 72 17)).toInt ≤ 9 by omega)
      have kc14 : 0 ≤ (m.1 72 18).toInt ∧ (m.1 72 18).toInt ≤ 9999 := hI.1 72 18
      have ki15 : zI (sm_w1 (sm_w1 (sm_w1 (sm_w1 m 72 27 ((m.1 72 27) - (1 : Int32))) 85 (((m.1 72 27) - (1 : Int32))).toNatClampNeg v1) 86 (((m.1 72 27) - (1 : Int32))).toNatClampNeg (m.1 72 17)) 87 (((m.1 72 27) - (1 : Int32))).toNatClampNeg (m.1 72 18)) := zI.w ki13 rfl (show 0 ≤ ((m.1 72 18)).toInt ∧ ((m.1 72 18)).toInt ≤ 9999 by omega)
      have ki16 : zI (sm_w1 (sm_w1 (sm_w1 (sm_w1 (sm_w1 m 72 27 ((m.1 72 27) - (1 : Int32))) 85 (((m.1 72 27) - (1 : Int32))).toNatClampNeg v1) 86 (((m.1 72 27) - (1 : Int32))).toNatClampNeg (m.1 72 17)) 87 (((m.1 72 27) - (1 : Int32))).toNatClampNeg (m.1 72 18)) 88 (((m.1 72 27) - (1 : Int32))).toNatClampNeg (m.1 83 (v1).toNatClampNeg)) := zI.w ki15 rfl (rg _)
      have kc17 : (((m.1 72 27) - (1 : Int32)) + (1 : Int32)).toInt = (((m.1 72 27) - (1 : Int32))).toInt + 1 := a_addl L1 (by omega) (by omega)
      have ki18 : zI (sm_w1 (sm_w1 (sm_w1 (sm_w1 (sm_w1 (sm_w1 m 72 27 ((m.1 72 27) - (1 : Int32))) 85 (((m.1 72 27) - (1 : Int32))).toNatClampNeg v1) 86 (((m.1 72 27) - (1 : Int32))).toNatClampNeg (m.1 72 17)) 87 (((m.1 72 27) - (1 : Int32))).toNatClampNeg (m.1 72 18)) 88 (((m.1 72 27) - (1 : Int32))).toNatClampNeg (m.1 83 (v1).toNatClampNeg)) 72 27 (((m.1 72 27) - (1 : Int32)) + (1 : Int32))) := zI.w ki16 rfl (show 0 ≤ ((((m.1 72 27) - (1 : Int32)) + (1 : Int32))).toInt ∧ ((((m.1 72 27) - (1 : Int32)) + (1 : Int32))).toInt ≤ 30 by omega)
      have kf19 : Fr wX12_putsBy m0 (sm_w1 m 72 27 ((m.1 72 27) - (1 : Int32))) := Fr.w hF rfl
      have kf20 : Fr wX12_putsBy m0 (sm_w1 (sm_w1 m 72 27 ((m.1 72 27) - (1 : Int32))) 85 (((m.1 72 27) - (1 : Int32))).toNatClampNeg v1) := Fr.w kf19 rfl
      have kf21 : Fr wX12_putsBy m0 (sm_w1 (sm_w1 (sm_w1 m 72 27 ((m.1 72 27) - (1 : Int32))) 85 (((m.1 72 27) - (1 : Int32))).toNatClampNeg v1) 86 (((m.1 72 27) - (1 : Int32))).toNatClampNeg (m.1 72 17)) := Fr.w kf20 rfl
      have kf22 : Fr wX12_putsBy m0 (sm_w1 (sm_w1 (sm_w1 (sm_w1 m 72 27 ((m.1 72 27) - (1 : Int32))) 85 (((m.1 72 27) - (1 : Int32))).toNatClampNeg v1) 86 (((m.1 72 27) - (1 : Int32))).toNatClampNeg (m.1 72 17)) 87 (((m.1 72 27) - (1 : Int32))).toNatClampNeg (m.1 72 18)) := Fr.w kf21 rfl
      have kf23 : Fr wX12_putsBy m0 (sm_w1 (sm_w1 (sm_w1 (sm_w1 (sm_w1 m 72 27 ((m.1 72 27) - (1 : Int32))) 85 (((m.1 72 27) - (1 : Int32))).toNatClampNeg v1) 86 (((m.1 72 27) - (1 : Int32))).toNatClampNeg (m.1 72 17)) 87 (((m.1 72 27) - (1 : Int32))).toNatClampNeg (m.1 72 18)) 88 (((m.1 72 27) - (1 : Int32))).toNatClampNeg (m.1 83 (v1).toNatClampNeg)) := Fr.w kf22 rfl
      have kf24 : Fr wX12_putsBy m0 (sm_w1 (sm_w1 (sm_w1 (sm_w1 (sm_w1 (sm_w1 m 72 27 ((m.1 72 27) - (1 : Int32))) 85 (((m.1 72 27) - (1 : Int32))).toNatClampNeg v1) 86 (((m.1 72 27) - (1 : Int32))).toNatClampNeg (m.1 72 17)) 87 (((m.1 72 27) - (1 : Int32))).toNatClampNeg (m.1 72 18)) 88 (((m.1 72 27) - (1 : Int32))).toNatClampNeg (m.1 83 (v1).toNatClampNeg)) 72 27 (((m.1 72 27) - (1 : Int32)) + (1 : Int32))) := Fr.w kf23 rfl
      exact s_ret ⟨trivial, ki18, kf24⟩
    · have kx25 : 0 ≤ (v2).toInt ∧ (v2).toInt < (30 : Int) := by omega
      refine s_ix kx25 ?_
      have kc26 : (v2 - (1 : Int32)).toInt = (v2).toInt - 1 := a_subl L1 (by omega) (by omega)
      have kx27 : 0 ≤ ((v2 - (1 : Int32))).toInt ∧ ((v2 - (1 : Int32))).toInt < (30 : Int) := by omega
      refine s_ix kx27 ?_
      refine s_ix kx25 ?_
      refine s_ix kx27 ?_
      refine s_ix kx25 ?_
      refine s_ix kx27 ?_
      refine s_ix kx25 ?_
      refine s_ix kx27 ?_
      have kc28 : (v2 + (1 : Int32)).toInt = (v2).toInt + 1 := a_addl L1 (by omega) (by omega)
      have kc29 : 0 ≤ (m.1 85 (v2).toNatClampNeg).toInt ∧ (m.1 85 (v2).toNatClampNeg).toInt ≤ 13 := hI.1 85 (v2).toNatClampNeg
      have ki30 : zI (sm_w1 m 85 ((v2 - (1 : Int32))).toNatClampNeg (m.1 85 (v2).toNatClampNeg)) := zI.w hI rfl (show 0 ≤ ((m.1 85 (v2).toNatClampNeg)).toInt ∧ ((m.1 85 (v2).toNatClampNeg)).toInt ≤ 13 by omega)
      have kc31 : 0 ≤ (m.1 86 (v2).toNatClampNeg).toInt ∧ (m.1 86 (v2).toNatClampNeg).toInt ≤ 9 := hI.1 86 (v2).toNatClampNeg
      have ki32 : zI (sm_w1 (sm_w1 m 85 ((v2 - (1 : Int32))).toNatClampNeg (m.1 85 (v2).toNatClampNeg)) 86 ((v2 - (1 : Int32))).toNatClampNeg (m.1 86 (v2).toNatClampNeg)) := zI.w ki30 rfl (show 0 ≤ ((m.1 86 (v2).toNatClampNeg)).toInt ∧ ((m.1 86 (v2).toNatClampNeg)).toInt ≤ 9 by omega)
      have kc33 : 0 ≤ (m.1 87 (v2).toNatClampNeg).toInt ∧ (m.1 87 (v2).toNatClampNeg).toInt ≤ 9999 := hI.1 87 (v2).toNatClampNeg
      have ki34 : zI (sm_w1 (sm_w1 (sm_w1 m 85 ((v2 - (1 : Int32))).toNatClampNeg (m.1 85 (v2).toNatClampNeg)) 86 ((v2 - (1 : Int32))).toNatClampNeg (m.1 86 (v2).toNatClampNeg)) 87 ((v2 - (1 : Int32))).toNatClampNeg (m.1 87 (v2).toNatClampNeg)) := zI.w ki32 rfl (show 0 ≤ ((m.1 87 (v2).toNatClampNeg)).toInt ∧ ((m.1 87 (v2).toNatClampNeg)).toInt ≤ 9999 by omega)
      have ki35 : zI (sm_w1 (sm_w1 (sm_w1 (sm_w1 m 85 ((v2 - (1 : Int32))).toNatClampNeg (m.1 85 (v2).toNatClampNeg)) 86 ((v2 - (1 : Int32))).toNatClampNeg (m.1 86 (v2).toNatClampNeg)) 87 ((v2 - (1 : Int32))).toNatClampNeg (m.1 87 (v2).toNatClampNeg)) 88 ((v2 - (1 : Int32))).toNatClampNeg (m.1 88 (v2).toNatClampNeg)) := zI.w ki34 rfl (rg _)
      have kc36 : 0 ≤ ((sm_w1 (sm_w1 (sm_w1 (sm_w1 m 85 ((v2 - (1 : Int32))).toNatClampNeg (m.1 85 (v2).toNatClampNeg)) 86 ((v2 - (1 : Int32))).toNatClampNeg (m.1 86 (v2).toNatClampNeg)) 87 ((v2 - (1 : Int32))).toNatClampNeg (m.1 87 (v2).toNatClampNeg)) 88 ((v2 - (1 : Int32))).toNatClampNeg (m.1 88 (v2).toNatClampNeg)).1 72 6).toInt ∧ ((sm_w1 (sm_w1 (sm_w1 (sm_w1 m 85 ((v2 - (1 : Int32))).toNatClampNeg (m.1 85 (v2).toNatClampNeg)) 86 ((v2 - (1 : Int32))).toNatClampNeg (m.1 86 (v2).toNatClampNeg)) 87 ((v2 - (1 : Int32))).toNatClampNeg (m.1 87 (v2).toNatClampNeg)) 88 ((v2 - (1 : Int32))).toNatClampNeg (m.1 88 (v2).toNatClampNeg)).1 72 6).toInt ≤ 14 := ki35.1 72 6
      have kc37 : 0 ≤ ((sm_w1 (sm_w1 (sm_w1 (sm_w1 m 85 ((v2 - (1 : Int32))).toNatClampNeg (m.1 85 (v2).toNatClampNeg)) 86 ((v2 - (1 : Int32))).toNatClampNeg (m.1 86 (v2).toNatClampNeg)) 87 ((v2 - (1 : Int32))).toNatClampNeg (m.1 87 (v2).toNatClampNeg)) 88 ((v2 - (1 : Int32))).toNatClampNeg (m.1 88 (v2).toNatClampNeg)).1 72 25).toInt ∧ ((sm_w1 (sm_w1 (sm_w1 (sm_w1 m 85 ((v2 - (1 : Int32))).toNatClampNeg (m.1 85 (v2).toNatClampNeg)) 86 ((v2 - (1 : Int32))).toNatClampNeg (m.1 86 (v2).toNatClampNeg)) 87 ((v2 - (1 : Int32))).toNatClampNeg (m.1 87 (v2).toNatClampNeg)) 88 ((v2 - (1 : Int32))).toNatClampNeg (m.1 88 (v2).toNatClampNeg)).1 72 25).toInt ≤ 14 := ki35.1 72 25
      have kc38 := zI.le ki35
      have kc39 : ((sm_w1 (sm_w1 (sm_w1 (sm_w1 m 85 ((v2 - (1 : Int32))).toNatClampNeg (m.1 85 (v2).toNatClampNeg)) 86 ((v2 - (1 : Int32))).toNatClampNeg (m.1 86 (v2).toNatClampNeg)) 87 ((v2 - (1 : Int32))).toNatClampNeg (m.1 87 (v2).toNatClampNeg)) 88 ((v2 - (1 : Int32))).toNatClampNeg (m.1 88 (v2).toNatClampNeg)).1 72 25).toInt = ((sm_w1 (sm_w1 (sm_w1 m 85 ((v2 - (1 : Int32))).toNatClampNeg (m.1 85 (v2).toNatClampNeg)) 86 ((v2 - (1 : Int32))).toNatClampNeg (m.1 86 (v2).toNatClampNeg)) 87 ((v2 - (1 : Int32))).toNatClampNeg (m.1 87 (v2).toNatClampNeg)).1 72 25).toInt := congrArg Int32.toInt (r_cell (by decide))
      have kc40 : 0 ≤ ((sm_w1 (sm_w1 (sm_w1 m 85 ((v2 - (1 : Int32))).toNatClampNeg (m.1 85 (v2).toNatClampNeg)) 86 ((v2 - (1 : Int32))).toNatClampNeg (m.1 86 (v2).toNatClampNeg)) 87 ((v2 - (1 : Int32))).toNatClampNeg (m.1 87 (v2).toNatClampNeg)).1 72 25).toInt ∧ ((sm_w1 (sm_w1 (sm_w1 m 85 ((v2 - (1 : Int32))).toNatClampNeg (m.1 85 (v2).toNatClampNeg)) 86 ((v2 - (1 : Int32))).toNatClampNeg (m.1 86 (v2).toNatClampNeg)) 87 ((v2 - (1 : Int32))).toNatClampNeg (m.1 87 (v2).toNatClampNeg)).1 72 25).toInt ≤ 14 := ki34.1 72 25
      have kc41 : 0 ≤ ((sm_w1 (sm_w1 (sm_w1 m 85 ((v2 - (1 : Int32))).toNatClampNeg (m.1 85 (v2).toNatClampNeg)) 86 ((v2 - (1 : Int32))).toNatClampNeg (m.1 86 (v2).toNatClampNeg)) 87 ((v2 - (1 : Int32))).toNatClampNeg (m.1 87 (v2).toNatClampNeg)).1 72 6).toInt ∧ ((sm_w1 (sm_w1 (sm_w1 m 85 ((v2 - (1 : Int32))).toNatClampNeg (m.1 85 (v2).toNatClampNeg)) 86 ((v2 - (1 : Int32))).toNatClampNeg (m.1 86 (v2).toNatClampNeg)) 87 ((v2 - (1 : Int32))).toNatClampNeg (m.1 87 (v2).toNatClampNeg)).1 72 6).toInt ≤ 14 := ki34.1 72 6
      have kc42 := zI.le ki34
      have kc43 : ((sm_w1 (sm_w1 (sm_w1 m 85 ((v2 - (1 : Int32))).toNatClampNeg (m.1 85 (v2).toNatClampNeg)) 86 ((v2 - (1 : Int32))).toNatClampNeg (m.1 86 (v2).toNatClampNeg)) 87 ((v2 - (1 : Int32))).toNatClampNeg (m.1 87 (v2).toNatClampNeg)).1 72 6).toInt = ((sm_w1 (sm_w1 m 85 ((v2 - (1 : Int32))).toNatClampNeg (m.1 85 (v2).toNatClampNeg)) 86 ((v2 - (1 : Int32))).toNatClampNeg (m.1 86 (v2).toNatClampNeg)).1 72 6).toInt := congrArg Int32.toInt (r_cell (by decide))
      have kc44 : 0 ≤ ((sm_w1 (sm_w1 m 85 ((v2 - (1 : Int32))).toNatClampNeg (m.1 85 (v2).toNatClampNeg)) 86 ((v2 - (1 : Int32))).toNatClampNeg (m.1 86 (v2).toNatClampNeg)).1 72 6).toInt ∧ ((sm_w1 (sm_w1 m 85 ((v2 - (1 : Int32))).toNatClampNeg (m.1 85 (v2).toNatClampNeg)) 86 ((v2 - (1 : Int32))).toNatClampNeg (m.1 86 (v2).toNatClampNeg)).1 72 6).toInt ≤ 14 := ki32.1 72 6
      have kc45 : 0 ≤ ((sm_w1 (sm_w1 m 85 ((v2 - (1 : Int32))).toNatClampNeg (m.1 85 (v2).toNatClampNeg)) 86 ((v2 - (1 : Int32))).toNatClampNeg (m.1 86 (v2).toNatClampNeg)).1 72 25).toInt ∧ ((sm_w1 (sm_w1 m 85 ((v2 - (1 : Int32))).toNatClampNeg (m.1 85 (v2).toNatClampNeg)) 86 ((v2 - (1 : Int32))).toNatClampNeg (m.1 86 (v2).toNatClampNeg)).1 72 25).toInt ≤ 14 := ki32.1 72 25
      have kc46 := zI.le ki32
      have kc47 : ((sm_w1 (sm_w1 m 85 ((v2 - (1 : Int32))).toNatClampNeg (m.1 85 (v2).toNatClampNeg)) 86 ((v2 - (1 : Int32))).toNatClampNeg (m.1 86 (v2).toNatClampNeg)).1 72 25).toInt = ((sm_w1 m 85 ((v2 - (1 : Int32))).toNatClampNeg (m.1 85 (v2).toNatClampNeg)).1 72 25).toInt := congrArg Int32.toInt (r_cell (by decide))
      have kc48 : 0 ≤ ((sm_w1 m 85 ((v2 - (1 : Int32))).toNatClampNeg (m.1 85 (v2).toNatClampNeg)).1 72 25).toInt ∧ ((sm_w1 m 85 ((v2 - (1 : Int32))).toNatClampNeg (m.1 85 (v2).toNatClampNeg)).1 72 25).toInt ≤ 14 := ki30.1 72 25
      have kc49 : 0 ≤ ((sm_w1 m 85 ((v2 - (1 : Int32))).toNatClampNeg (m.1 85 (v2).toNatClampNeg)).1 72 6).toInt ∧ ((sm_w1 m 85 ((v2 - (1 : Int32))).toNatClampNeg (m.1 85 (v2).toNatClampNeg)).1 72 6).toInt ≤ 14 := ki30.1 72 6
      have kc50 := zI.le ki30
      have kc51 : ((sm_w1 m 85 ((v2 - (1 : Int32))).toNatClampNeg (m.1 85 (v2).toNatClampNeg)).1 72 6).toInt = (m.1 72 6).toInt := congrArg Int32.toInt (r_cell (by decide))
      have kc52 : ((sm_w1 m 85 ((v2 - (1 : Int32))).toNatClampNeg (m.1 85 (v2).toNatClampNeg)).1 72 25).toInt = (m.1 72 25).toInt := congrArg Int32.toInt (r_cell (by decide))
      have kc53 : ((sm_w1 (sm_w1 m 85 ((v2 - (1 : Int32))).toNatClampNeg (m.1 85 (v2).toNatClampNeg)) 86 ((v2 - (1 : Int32))).toNatClampNeg (m.1 86 (v2).toNatClampNeg)).1 72 6).toInt = ((sm_w1 m 85 ((v2 - (1 : Int32))).toNatClampNeg (m.1 85 (v2).toNatClampNeg)).1 72 6).toInt := congrArg Int32.toInt (r_cell (by decide))
      have kc54 : ((sm_w1 (sm_w1 (sm_w1 m 85 ((v2 - (1 : Int32))).toNatClampNeg (m.1 85 (v2).toNatClampNeg)) 86 ((v2 - (1 : Int32))).toNatClampNeg (m.1 86 (v2).toNatClampNeg)) 87 ((v2 - (1 : Int32))).toNatClampNeg (m.1 87 (v2).toNatClampNeg)).1 72 25).toInt = ((sm_w1 (sm_w1 m 85 ((v2 - (1 : Int32))).toNatClampNeg (m.1 85 (v2).toNatClampNeg)) 86 ((v2 - (1 : Int32))).toNatClampNeg (m.1 86 (v2).toNatClampNeg)).1 72 25).toInt := congrArg Int32.toInt (r_cell (by decide))
      have kc55 : ((sm_w1 (sm_w1 (sm_w1 (sm_w1 m 85 ((v2 - (1 : Int32))).toNatClampNeg (m.1 85 (v2).toNatClampNeg)) 86 ((v2 - (1 : Int32))).toNatClampNeg (m.1 86 (v2).toNatClampNeg)) 87 ((v2 - (1 : Int32))).toNatClampNeg (m.1 87 (v2).toNatClampNeg)) 88 ((v2 - (1 : Int32))).toNatClampNeg (m.1 88 (v2).toNatClampNeg)).1 72 6).toInt = ((sm_w1 (sm_w1 (sm_w1 m 85 ((v2 - (1 : Int32))).toNatClampNeg (m.1 85 (v2).toNatClampNeg)) 86 ((v2 - (1 : Int32))).toNatClampNeg (m.1 86 (v2).toNatClampNeg)) 87 ((v2 - (1 : Int32))).toNatClampNeg (m.1 87 (v2).toNatClampNeg)).1 72 6).toInt := congrArg Int32.toInt (r_cell (by decide))
      have kc56 : 0 ≤ ((sm_w1 (sm_w1 (sm_w1 (sm_w1 m 85 ((v2 - (1 : Int32))).toNatClampNeg (m.1 85 (v2).toNatClampNeg)) 86 ((v2 - (1 : Int32))).toNatClampNeg (m.1 86 (v2).toNatClampNeg)) 87 ((v2 - (1 : Int32))).toNatClampNeg (m.1 87 (v2).toNatClampNeg)) 88 ((v2 - (1 : Int32))).toNatClampNeg (m.1 88 (v2).toNatClampNeg)).1 72 27).toInt ∧ ((sm_w1 (sm_w1 (sm_w1 (sm_w1 m 85 ((v2 - (1 : Int32))).toNatClampNeg (m.1 85 (v2).toNatClampNeg)) 86 ((v2 - (1 : Int32))).toNatClampNeg (m.1 86 (v2).toNatClampNeg)) 87 ((v2 - (1 : Int32))).toNatClampNeg (m.1 87 (v2).toNatClampNeg)) 88 ((v2 - (1 : Int32))).toNatClampNeg (m.1 88 (v2).toNatClampNeg)).1 72 27).toInt ≤ 30 := ki35.1 72 27
      have kc57 : ((sm_w1 (sm_w1 (sm_w1 (sm_w1 m 85 ((v2 - (1 : Int32))).toNatClampNeg (m.1 85 (v2).toNatClampNeg)) 86 ((v2 - (1 : Int32))).toNatClampNeg (m.1 86 (v2).toNatClampNeg)) 87 ((v2 - (1 : Int32))).toNatClampNeg (m.1 87 (v2).toNatClampNeg)) 88 ((v2 - (1 : Int32))).toNatClampNeg (m.1 88 (v2).toNatClampNeg)).1 72 27).toInt = ((sm_w1 (sm_w1 (sm_w1 m 85 ((v2 - (1 : Int32))).toNatClampNeg (m.1 85 (v2).toNatClampNeg)) 86 ((v2 - (1 : Int32))).toNatClampNeg (m.1 86 (v2).toNatClampNeg)) 87 ((v2 - (1 : Int32))).toNatClampNeg (m.1 87 (v2).toNatClampNeg)).1 72 27).toInt := congrArg Int32.toInt (r_cell (by decide))
      have kc58 : 0 ≤ ((sm_w1 (sm_w1 (sm_w1 m 85 ((v2 - (1 : Int32))).toNatClampNeg (m.1 85 (v2).toNatClampNeg)) 86 ((v2 - (1 : Int32))).toNatClampNeg (m.1 86 (v2).toNatClampNeg)) 87 ((v2 - (1 : Int32))).toNatClampNeg (m.1 87 (v2).toNatClampNeg)).1 72 27).toInt ∧ ((sm_w1 (sm_w1 (sm_w1 m 85 ((v2 - (1 : Int32))).toNatClampNeg (m.1 85 (v2).toNatClampNeg)) 86 ((v2 - (1 : Int32))).toNatClampNeg (m.1 86 (v2).toNatClampNeg)) 87 ((v2 - (1 : Int32))).toNatClampNeg (m.1 87 (v2).toNatClampNeg)).1 72 27).toInt ≤ 30 := ki34.1 72 27
      have kc59 : ((sm_w1 (sm_w1 (sm_w1 m 85 ((v2 - (1 : Int32))).toNatClampNeg (m.1 85 (v2).toNatClampNeg)) 86 ((v2 - (1 : Int32))).toNatClampNeg (m.1 86 (v2).toNatClampNeg)) 87 ((v2 - (1 : Int32))).toNatClampNeg (m.1 87 (v2).toNatClampNeg)).1 72 27).toInt = ((sm_w1 (sm_w1 m 85 ((v2 - (1 : Int32))).toNatClampNeg (m.1 85 (v2).toNatClampNeg)) 86 ((v2 - (1 : Int32))).toNatClampNeg (m.1 86 (v2).toNatClampNeg)).1 72 27).toInt := congrArg Int32.toInt (r_cell (by decide))
      have kc60 : 0 ≤ ((sm_w1 (sm_w1 m 85 ((v2 - (1 : Int32))).toNatClampNeg (m.1 85 (v2).toNatClampNeg)) 86 ((v2 - (1 : Int32))).toNatClampNeg (m.1 86 (v2).toNatClampNeg)).1 72 27).toInt ∧ ((sm_w1 (sm_w1 m 85 ((v2 - (1 : Int32))).toNatClampNeg (m.1 85 (v2).toNatClampNeg)) 86 ((v2 - (1 : Int32))).toNatClampNeg (m.1 86 (v2).toNatClampNeg)).1 72 27).toInt ≤ 30 := ki32.1 72 27
      have kc61 : ((sm_w1 (sm_w1 m 85 ((v2 - (1 : Int32))).toNatClampNeg (m.1 85 (v2).toNatClampNeg)) 86 ((v2 - (1 : Int32))).toNatClampNeg (m.1 86 (v2).toNatClampNeg)).1 72 27).toInt = ((sm_w1 m 85 ((v2 - (1 : Int32))).toNatClampNeg (m.1 85 (v2).toNatClampNeg)).1 72 27).toInt := congrArg Int32.toInt (r_cell (by decide))
      have kc62 : 0 ≤ ((sm_w1 m 85 ((v2 - (1 : Int32))).toNatClampNeg (m.1 85 (v2).toNatClampNeg)).1 72 27).toInt ∧ ((sm_w1 m 85 ((v2 - (1 : Int32))).toNatClampNeg (m.1 85 (v2).toNatClampNeg)).1 72 27).toInt ≤ 30 := ki30.1 72 27
      have kc63 : ((sm_w1 m 85 ((v2 - (1 : Int32))).toNatClampNeg (m.1 85 (v2).toNatClampNeg)).1 72 27).toInt = (m.1 72 27).toInt := congrArg Int32.toInt (r_cell (by decide))
      have kf64 : Fr wX12_putsBy m0 (sm_w1 m 85 ((v2 - (1 : Int32))).toNatClampNeg (m.1 85 (v2).toNatClampNeg)) := Fr.w hF rfl
      have kf65 : Fr wX12_putsBy m0 (sm_w1 (sm_w1 m 85 ((v2 - (1 : Int32))).toNatClampNeg (m.1 85 (v2).toNatClampNeg)) 86 ((v2 - (1 : Int32))).toNatClampNeg (m.1 86 (v2).toNatClampNeg)) := Fr.w kf64 rfl
      have kf66 : Fr wX12_putsBy m0 (sm_w1 (sm_w1 (sm_w1 m 85 ((v2 - (1 : Int32))).toNatClampNeg (m.1 85 (v2).toNatClampNeg)) 86 ((v2 - (1 : Int32))).toNatClampNeg (m.1 86 (v2).toNatClampNeg)) 87 ((v2 - (1 : Int32))).toNatClampNeg (m.1 87 (v2).toNatClampNeg)) := Fr.w kf65 rfl
      have kf67 : Fr wX12_putsBy m0 (sm_w1 (sm_w1 (sm_w1 (sm_w1 m 85 ((v2 - (1 : Int32))).toNatClampNeg (m.1 85 (v2).toNatClampNeg)) 86 ((v2 - (1 : Int32))).toNatClampNeg (m.1 86 (v2).toNatClampNeg)) 87 ((v2 - (1 : Int32))).toNatClampNeg (m.1 87 (v2).toNatClampNeg)) 88 ((v2 - (1 : Int32))).toNatClampNeg (m.1 88 (v2).toNatClampNeg)) := Fr.w kf66 rfl
      exact ih v1 (v2 + (1 : Int32)) (sm_w1 (sm_w1 (sm_w1 (sm_w1 m 85 ((v2 - (1 : Int32))).toNatClampNeg (m.1 85 (v2).toNatClampNeg)) 86 ((v2 - (1 : Int32))).toNatClampNeg (m.1 86 (v2).toNatClampNeg)) 87 ((v2 - (1 : Int32))).toNatClampNeg (m.1 87 (v2).toNatClampNeg)) 88 ((v2 - (1 : Int32))).toNatClampNeg (m.1 88 (v2).toNatClampNeg)) (show 0 ≤ v1.toInt ∧ v1.toInt ≤ 13 ∧ 1 ≤ (v2 + (1 : Int32)).toInt ∧ (v2 + (1 : Int32)).toInt ≤ 30 ∧ v1.toInt < ((sm_w1 (sm_w1 (sm_w1 (sm_w1 m 85 ((v2 - (1 : Int32))).toNatClampNeg (m.1 85 (v2).toNatClampNeg)) 86 ((v2 - (1 : Int32))).toNatClampNeg (m.1 86 (v2).toNatClampNeg)) 87 ((v2 - (1 : Int32))).toNatClampNeg (m.1 87 (v2).toNatClampNeg)) 88 ((v2 - (1 : Int32))).toNatClampNeg (m.1 88 (v2).toNatClampNeg)).1 72 6).toInt ∧ 30 - (v2 + (1 : Int32)).toInt < (n : Int) ∧ ((sm_w1 (sm_w1 (sm_w1 (sm_w1 m 85 ((v2 - (1 : Int32))).toNatClampNeg (m.1 85 (v2).toNatClampNeg)) 86 ((v2 - (1 : Int32))).toNatClampNeg (m.1 86 (v2).toNatClampNeg)) 87 ((v2 - (1 : Int32))).toNatClampNeg (m.1 87 (v2).toNatClampNeg)) 88 ((v2 - (1 : Int32))).toNatClampNeg (m.1 88 (v2).toNatClampNeg)).1 72 27).toInt = 30 by omega) ki35 kf67
