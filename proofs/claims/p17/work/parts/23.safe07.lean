theorem zX1_layPaths_53 (m0 : sm_S) : ∀ (n : Nat) (v2 : Int32) (m : sm_S), (0 ≤ v2.toInt ∧ v2.toInt ≤ 14 ∧ 14 - v2.toInt < (n : Int)) → zI m → Fr wX1_layPaths m0 m → Sf (fun r => (True) ∧ zI r ∧ Fr wX1_layPaths m0 r) (fX1_layPaths_53 n v2 m) := by
  intro n
  induction n with
  | zero =>
    intro v2 m hp hI hF
    exfalso
    omega
  | succ n ih =>
    intro v2 m hp hI hF
    have hnn : ((n + 1 : Nat) : Int) = (n : Int) + 1 := by omega
    have hfu := fuE
    unfold fX1_layPaths_53
    have kc1 : 0 ≤ (m.1 3 1).toInt ∧ (m.1 3 1).toInt ≤ 14 := hI.1 3 1
    refine s_le (fun kh2 => ?_) (fun kh2 => ?_)
    · exact s_ret ⟨trivial, hI, hF⟩
    · have kx3 : 0 ≤ (v2).toInt ∧ (v2).toInt < (14 : Int) := by omega
      refine s_ix kx3 ?_
      have kc4 : 0 ≤ (m.1 13 (v2).toNatClampNeg).toInt ∧ (m.1 13 (v2).toNatClampNeg).toInt ≤ 1 := hI.1 13 (v2).toNatClampNeg
      have kc5 := L0
      refine s_eq (fun kh6 => ?_) (fun kh6 => ?_)
      · refine s_ix kx3 ?_
        refine s_ix kx3 ?_
        have kc7 : 0 ≤ (m.1 6 (v2).toNatClampNeg).toInt ∧ (m.1 6 (v2).toNatClampNeg).toInt ≤ 9 := hI.1 6 (v2).toNatClampNeg
        have kx8 : 0 ≤ ((m.1 6 (v2).toNatClampNeg)).toInt ∧ ((m.1 6 (v2).toNatClampNeg)).toInt < (10 : Int) := by omega
        refine s_ix kx8 ?_
        refine s_ix kx8 ?_
        have kc9 : 0 ≤ (m.1 7 (v2).toNatClampNeg).toInt ∧ (m.1 7 (v2).toNatClampNeg).toInt ≤ 9 := hI.1 7 (v2).toNatClampNeg
        have kx10 : 0 ≤ ((m.1 7 (v2).toNatClampNeg)).toInt ∧ ((m.1 7 (v2).toNatClampNeg)).toInt < (10 : Int) := by omega
        refine s_ix kx10 ?_
        refine s_bd (zX2_minutesFrom v2 (m.1 6 (v2).toNatClampNeg) m (show 0 ≤ v2.toInt ∧ v2.toInt ≤ 13 ∧ 0 ≤ (m.1 6 (v2).toNatClampNeg).toInt ∧ (m.1 6 (v2).toNatClampNeg).toInt ≤ 15 by omega) hI) (fun r8 kr11 => ?_)
        replace kr11 : (0 ≤ r8.toInt) ∧ (r8.toInt ≤ 29) := kr11
        refine s_ix kx10 ?_
        refine s_ix kx10 ?_
        refine s_ix kx10 ?_
        refine s_ix kx8 ?_
        have kc12 : ((r8).toInt < ((m.1 (39 + ((m.1 6 (v2).toNatClampNeg)).toNatClampNeg) ((m.1 7 (v2).toNatClampNeg)).toNatClampNeg)).toInt ∧ (if r8 < (m.1 (39 + ((m.1 6 (v2).toNatClampNeg)).toNatClampNeg) ((m.1 7 (v2).toNatClampNeg)).toNatClampNeg) then r8 else (m.1 (39 + ((m.1 6 (v2).toNatClampNeg)).toNatClampNeg) ((m.1 7 (v2).toNatClampNeg)).toNatClampNeg)).toInt = (r8).toInt) ∨ (((m.1 (39 + ((m.1 6 (v2).toNatClampNeg)).toNatClampNeg) ((m.1 7 (v2).toNatClampNeg)).toNatClampNeg)).toInt ≤ (r8).toInt ∧ (if r8 < (m.1 (39 + ((m.1 6 (v2).toNatClampNeg)).toNatClampNeg) ((m.1 7 (v2).toNatClampNeg)).toNatClampNeg) then r8 else (m.1 (39 + ((m.1 6 (v2).toNatClampNeg)).toNatClampNeg) ((m.1 7 (v2).toNatClampNeg)).toNatClampNeg)).toInt = ((m.1 (39 + ((m.1 6 (v2).toNatClampNeg)).toNatClampNeg) ((m.1 7 (v2).toNatClampNeg)).toNatClampNeg)).toInt) := a_ilt
        have ki13 : zI (sm_w1 m (39 + ((m.1 6 (v2).toNatClampNeg)).toNatClampNeg) ((m.1 7 (v2).toNatClampNeg)).toNatClampNeg (if r8 < (m.1 (39 + ((m.1 6 (v2).toNatClampNeg)).toNatClampNeg) ((m.1 7 (v2).toNatClampNeg)).toNatClampNeg) then r8 else (m.1 (39 + ((m.1 6 (v2).toNatClampNeg)).toNatClampNeg) ((m.1 7 (v2).toNatClampNeg)).toNatClampNeg))) := zI.row hI (show 0 ≤ ((m.1 6 (v2).toNatClampNeg)).toInt ∧ ((m.1 6 (v2).toNatClampNeg)).toInt < 10 by omega)
        refine s_bd (zX2_minutesFrom v2 (m.1 7 (v2).toNatClampNeg) (sm_w1 m (39 + ((m.1 6 (v2).toNatClampNeg)).toNatClampNeg) ((m.1 7 (v2).toNatClampNeg)).toNatClampNeg (if r8 < (m.1 (39 + ((m.1 6 (v2).toNatClampNeg)).toNatClampNeg) ((m.1 7 (v2).toNatClampNeg)).toNatClampNeg) then r8 else (m.1 (39 + ((m.1 6 (v2).toNatClampNeg)).toNatClampNeg) ((m.1 7 (v2).toNatClampNeg)).toNatClampNeg))) (show 0 ≤ v2.toInt ∧ v2.toInt ≤ 13 ∧ 0 ≤ (m.1 7 (v2).toNatClampNeg).toInt ∧ (m.1 7 (v2).toNatClampNeg).toInt ≤ 15 by omega) ki13) (fun r14 kr14 => ?_)
        replace kr14 : (0 ≤ r14.toInt) ∧ (r14.toInt ≤ 29) := kr14
        refine s_ix kx8 ?_
        have kc15 : (v2 + (1 : Int32)).toInt = (v2).toInt + 1 := a_addl L1 (by omega) (by omega)
        have kc16 : ((r14).toInt < (((sm_w1 m (39 + ((m.1 6 (v2).toNatClampNeg)).toNatClampNeg) ((m.1 7 (v2).toNatClampNeg)).toNatClampNeg (if r8 < (m.1 (39 + ((m.1 6 (v2).toNatClampNeg)).toNatClampNeg) ((m.1 7 (v2).toNatClampNeg)).toNatClampNeg) then r8 else (m.1 (39 + ((m.1 6 (v2).toNatClampNeg)).toNatClampNeg) ((m.1 7 (v2).toNatClampNeg)).toNatClampNeg))).1 (39 + ((m.1 7 (v2).toNatClampNeg)).toNatClampNeg) ((m.1 6 (v2).toNatClampNeg)).toNatClampNeg)).toInt ∧ (if r14 < ((sm_w1 m (39 + ((m.1 6 (v2).toNatClampNeg)).toNatClampNeg) ((m.1 7 (v2).toNatClampNeg)).toNatClampNeg (if r8 < (m.1 (39 + ((m.1 6 (v2).toNatClampNeg)).toNatClampNeg) ((m.1 7 (v2).toNatClampNeg)).toNatClampNeg) then r8 else (m.1 (39 + ((m.1 6 (v2).toNatClampNeg)).toNatClampNeg) ((m.1 7 (v2).toNatClampNeg)).toNatClampNeg))).1 (39 + ((m.1 7 (v2).toNatClampNeg)).toNatClampNeg) ((m.1 6 (v2).toNatClampNeg)).toNatClampNeg) then r14 else ((sm_w1 m (39 + ((m.1 6 (v2).toNatClampNeg)).toNatClampNeg) ((m.1 7 (v2).toNatClampNeg)).toNatClampNeg (if r8 < (m.1 (39 + ((m.1 6 (v2).toNatClampNeg)).toNatClampNeg) ((m.1 7 (v2).toNatClampNeg)).toNatClampNeg) then r8 else (m.1 (39 + ((m.1 6 (v2).toNatClampNeg)).toNatClampNeg) ((m.1 7 (v2).toNatClampNeg)).toNatClampNeg))).1 (39 + ((m.1 7 (v2).toNatClampNeg)).toNatClampNeg) ((m.1 6 (v2).toNatClampNeg)).toNatClampNeg)).toInt = (r14).toInt) ∨ ((((sm_w1 m (39 + ((m.1 6 (v2).toNatClampNeg)).toNatClampNeg) ((m.1 7 (v2).toNatClampNeg)).toNatClampNeg (if r8 < (m.1 (39 + ((m.1 6 (v2).toNatClampNeg)).toNatClampNeg) ((m.1 7 (v2).toNatClampNeg)).toNatClampNeg) then r8 else (m.1 (39 + ((m.1 6 (v2).toNatClampNeg)).toNatClampNeg) ((m.1 7 (v2).toNatClampNeg)).toNatClampNeg))).1 (39 + ((m.1 7 (v2).toNatClampNeg)).toNatClampNeg) ((m.1 6 (v2).toNatClampNeg)).toNatClampNeg)).toInt ≤ (r14).toInt ∧ (if r14 < ((sm_w1 m (39 + ((m.1 6 (v2).toNatClampNeg)).toNatClampNeg) ((m.1 7 (v2).toNatClampNeg)).toNatClampNeg (if r8 < (m.1 (39 + ((m.1 6 (v2).toNatClampNeg)).toNatClampNeg) ((m.1 7 (v2).toNatClampNeg)).toNatClampNeg) then r8 else (m.1 (39 + ((m.1 6 (v2).toNatClampNeg)).toNatClampNeg) ((m.1 7 (v2).toNatClampNeg)).toNatClampNeg))).1 (39 + ((m.1 7 (v2).toNatClampNeg)).toNatClampNeg) ((m.1 6 (v2).toNatClampNeg)).toNatClampNeg) then r14 else ((sm_w1 m (39 + ((m.1 6 (v2).toNatClampNeg)).toNatClampNeg) ((m.1 7 (v2).toNatClampNeg)).toNatClampNeg (if r8 < (m.1 (39 + ((m.1 6 (v2).toNatClampNeg)).toNatClampNeg) ((m.1 7 (v2).toNatClampNeg)).toNatClampNeg) then r8 else (m.1 (39 + ((m.1 6 (v2).toNatClampNeg)).toNatClampNeg) ((m.1 7 (v2).toNatClampNeg)).toNatClampNeg))).1 (39 + ((m.1 7 (v2).toNatClampNeg)).toNatClampNeg) ((m.1 6 (v2).toNatClampNeg)).toNatClampNeg)).toInt = (((sm_w1 m (39 + ((m.1 6 (v2).toNatClampNeg)).toNatClampNeg) ((m.1 7 (v2).toNatClampNeg)).toNatClampNeg (if r8 < (m.1 (39 + ((m.1 6 (v2).toNatClampNeg)).toNatClampNeg) ((m.1 7 (v2).toNatClampNeg)).toNatClampNeg) then r8 else (m.1 (39 + ((m.1 6 (v2).toNatClampNeg)).toNatClampNeg) ((m.1 7 (v2).toNatClampNeg)).toNatClampNeg))).1 (39 + ((m.1 7 (v2).toNatClampNeg)).toNatClampNeg) ((m.1 6 (v2).toNatClampNeg)).toNatClampNeg)).toInt) := a_ilt
        have ki17 : zI (sm_w1 (sm_w1 m (39 + ((m.1 6 (v2).toNatClampNeg)).toNatClampNeg) ((m.1 7 (v2).toNatClampNeg)).toNatClampNeg (if r8 < (m.1 (39 + ((m.1 6 (v2).toNatClampNeg)).toNatClampNeg) ((m.1 7 (v2).toNatClampNeg)).toNatClampNeg) then r8 else (m.1 (39 + ((m.1 6 (v2).toNatClampNeg)).toNatClampNeg) ((m.1 7 (v2).toNatClampNeg)).toNatClampNeg))) (39 + ((m.1 7 (v2).toNatClampNeg)).toNatClampNeg) ((m.1 6 (v2).toNatClampNeg)).toNatClampNeg (if r14 < ((sm_w1 m (39 + ((m.1 6 (v2).toNatClampNeg)).toNatClampNeg) ((m.1 7 (v2).toNatClampNeg)).toNatClampNeg (if r8 < (m.1 (39 + ((m.1 6 (v2).toNatClampNeg)).toNatClampNeg) ((m.1 7 (v2).toNatClampNeg)).toNatClampNeg) then r8 else (m.1 (39 + ((m.1 6 (v2).toNatClampNeg)).toNatClampNeg) ((m.1 7 (v2).toNatClampNeg)).toNatClampNeg))).1 (39 + ((m.1 7 (v2).toNatClampNeg)).toNatClampNeg) ((m.1 6 (v2).toNatClampNeg)).toNatClampNeg) then r14 else ((sm_w1 m (39 + ((m.1 6 (v2).toNatClampNeg)).toNatClampNeg) ((m.1 7 (v2).toNatClampNeg)).toNatClampNeg (if r8 < (m.1 (39 + ((m.1 6 (v2).toNatClampNeg)).toNatClampNeg) ((m.1 7 (v2).toNatClampNeg)).toNatClampNeg) then r8 else (m.1 (39 + ((m.1 6 (v2).toNatClampNeg)).toNatClampNeg) ((m.1 7 (v2).toNatClampNeg)).toNatClampNeg))).1 (39 + ((m.1 7 (v2).toNatClampNeg)).toNatClampNeg) ((m.1 6 (v2).toNatClampNeg)).toNatClampNeg))) := zI.row ki13 (show 0 ≤ ((m.1 7 (v2).toNatClampNeg)).toInt ∧ ((m.1 7 (v2).toNatClampNeg)).toInt < 10 by omega)
        have kf18 : Fr wX1_layPaths m0 (sm_w1 m (39 + ((m.1 6 (v2).toNatClampNeg)).toNatClampNeg) ((m.1 7 (v2).toNatClampNeg)).toNatClampNeg (if r8 < (m.1 (39 + ((m.1 6 (v2).toNatClampNeg)).toNatClampNeg) ((m.1 7 (v2).toNatClampNeg)).toNatClampNeg) then r8 else (m.1 (39 + ((m.1 6 (v2).toNatClampNeg)).toNatClampNeg) ((m.1 7 (v2).toNatClampNeg)).toNatClampNeg))) := Fr.row hF (show 0 ≤ ((m.1 6 (v2).toNatClampNeg)).toInt ∧ ((m.1 6 (v2).toNatClampNeg)).toInt < 10 by omega) rfl
        have kf19 : Fr wX1_layPaths m0 (sm_w1 (sm_w1 m (39 + ((m.1 6 (v2).toNatClampNeg)).toNatClampNeg) ((m.1 7 (v2).toNatClampNeg)).toNatClampNeg (if r8 < (m.1 (39 + ((m.1 6 (v2).toNatClampNeg)).toNatClampNeg) ((m.1 7 (v2).toNatClampNeg)).toNatClampNeg) then r8 else (m.1 (39 + ((m.1 6 (v2).toNatClampNeg)).toNatClampNeg) ((m.1 7 (v2).toNatClampNeg)).toNatClampNeg))) (39 + ((m.1 7 (v2).toNatClampNeg)).toNatClampNeg) ((m.1 6 (v2).toNatClampNeg)).toNatClampNeg (if r14 < ((sm_w1 m (39 + ((m.1 6 (v2).toNatClampNeg)).toNatClampNeg) ((m.1 7 (v2).toNatClampNeg)).toNatClampNeg (if r8 < (m.1 (39 + ((m.1 6 (v2).toNatClampNeg)).toNatClampNeg) ((m.1 7 (v2).toNatClampNeg)).toNatClampNeg) then r8 else (m.1 (39 + ((m.1 6 (v2).toNatClampNeg)).toNatClampNeg) ((m.1 7 (v2).toNatClampNeg)).toNatClampNeg))).1 (39 + ((m.1 7 (v2).toNatClampNeg)).toNatClampNeg) ((m.1 6 (v2).toNatClampNeg)).toNatClampNeg) then r14 else ((sm_w1 m (39 + ((m.1 6 (v2).toNatClampNeg)).toNatClampNeg) ((m.1 7 (v2).toNatClampNeg)).toNatClampNeg (if r8 < (m.1 (39 + ((m.1 6 (v2).toNatClampNeg)).toNatClampNeg) ((m.1 7 (v2).toNatClampNeg)).toNatClampNeg) then r8 else (m.1 (39 + ((m.1 6 (v2).toNatClampNeg)).toNatClampNeg) ((m.1 7 (v2).toNatClampNeg)).toNatClampNeg))).1 (39 + ((m.1 7 (v2).toNatClampNeg)).toNatClampNeg) ((m.1 6 (v2).toNatClampNeg)).toNatClampNeg))) := Fr.row kf18 (show 0 ≤ ((m.1 7 (v2).toNatClampNeg)).toInt ∧ ((m.1 7 (v2).toNatClampNeg)).toInt < 10 by omega) rfl
        exact ih (v2 + (1 : Int32)) (sm_w1 (sm_w1 m (39 + ((m.1 6 (v2).toNatClampNeg)).toNatClampNeg) ((m.1 7 (v2).toNatClampNeg)).toNatClampNeg (if r8 < (m.1 (39 + ((m.1 6 (v2).toNatClampNeg)).toNatClampNeg) ((m.1 7 (v2).toNatClampNeg)).toNatClampNeg) then r8 else (m.1 (39 + ((m.1 6 (v2).toNatClampNeg)).toNatClampNeg) ((m.1 7 (v2).toNatClampNeg)).toNatClampNeg))) (39 + ((m.1 7 (v2).toNatClampNeg)).toNatClampNeg) ((m.1 6 (v2).toNatClampNeg)).toNatClampNeg (if r14 < ((sm_w1 m (39 + ((m.1 6 (v2).toNatClampNeg)).toNatClampNeg) ((m.1 7 (v2).toNatClampNeg)).toNatClampNeg (if r8 < (m.1 (39 + ((m.1 6 (v2).toNatClampNeg)).toNatClampNeg) ((m.1 7 (v2).toNatClampNeg)).toNatClampNeg) then r8 else (m.1 (39 + ((m.1 6 (v2).toNatClampNeg)).toNatClampNeg) ((m.1 7 (v2).toNatClampNeg)).toNatClampNeg))).1 (39 + ((m.1 7 (v2).toNatClampNeg)).toNatClampNeg) ((m.1 6 (v2).toNatClampNeg)).toNatClampNeg) then r14 else ((sm_w1 m (39 + ((m.1 6 (v2).toNatClampNeg)).toNatClampNeg) ((m.1 7 (v2).toNatClampNeg)).toNatClampNeg (if r8 < (m.1 (39 + ((m.1 6 (v2).toNatClampNeg)).toNatClampNeg) ((m.1 7 (v2).toNatClampNeg)).toNatClampNeg) then r8 else (m.1 (39 + ((m.1 6 (v2).toNatClampNeg)).toNatClampNeg) ((m.1 7 (v2).toNatClampNeg)).toNatClampNeg))).1 (39 + ((m.1 7 (v2).toNatClampNeg)).toNatClampNeg) ((m.1 6 (v2).toNatClampNeg)).toNatClampNeg))) (show 0 ≤ (v2 + (1 : Int32)).toInt ∧ (v2 + (1 : Int32)).toInt ≤ 14 ∧ 14 - (v2 + (1 : Int32)).toInt < (n : Int) by omega) ki17 kf19
      · have kc20 : (v2 + (1 : Int32)).toInt = (v2).toInt + 1 := a_addl L1 (by omega) (by omega)
        exact ih (v2 + (1 : Int32)) m (show 0 ≤ (v2 + (1 : Int32)).toInt ∧ (v2 + (1 : Int32)).toInt ≤ 14 ∧ 14 - (v2 + (1 : Int32)).toInt < (n : Int) by omega) hI hF
theorem zX1_layPaths_12 (m0 : sm_S) (k2 : Int32 → sm_S → Option (sm_S)) (Nk2 : Nat) (hk2 : ∀ (v2 : Int32) (m : sm_S), (0 ≤ v2.toInt ∧ v2.toInt ≤ 10 ∧ 10 - v2.toInt < (Nk2 : Int)) → zI m → Fr wX1_layPaths m0 m → Sf (fun r => (True) ∧ zI r ∧ Fr wX1_layPaths m0 r) (k2 v2 m)) : ∀ (n : Nat) (v2 : Int32) (v3 : Int32) (m : sm_S), (0 ≤ v2.toInt ∧ v2.toInt ≤ 9 ∧ 0 ≤ v3.toInt ∧ v3.toInt ≤ 10 ∧ 10 - v3.toInt < (n : Int) ∧ 10 - v2.toInt ≤ (Nk2 : Int)) → zI m → Fr wX1_layPaths m0 m → Sf (fun r => (True) ∧ zI r ∧ Fr wX1_layPaths m0 r) (fX1_layPaths_12 k2 n v2 v3 m) := by
  intro n
  induction n with
  | zero =>
    intro v2 v3 m hp hI hF
    exfalso
    omega
  | succ n ih =>
    intro v2 v3 m hp hI hF
    have hnn : ((n + 1 : Nat) : Int) = (n : Int) + 1 := by omega
    have hfu := fuE
    unfold fX1_layPaths_12
    have kc1 : 0 ≤ (m.1 3 0).toInt ∧ (m.1 3 0).toInt ≤ 10 := hI.1 3 0
    refine s_le (fun kh2 => ?_) (fun kh2 => ?_)
    · have kc3 : (v2 + (1 : Int32)).toInt = (v2).toInt + 1 := a_addl L1 (by omega) (by omega)
      exact hk2 (v2 + (1 : Int32)) m (show 0 ≤ (v2 + (1 : Int32)).toInt ∧ (v2 + (1 : Int32)).toInt ≤ 10 ∧ 10 - (v2 + (1 : Int32)).toInt < (Nk2 : Int) by omega) hI hF
    · have kx4 : 0 ≤ (v2).toInt ∧ (v2).toInt < (10 : Int) := by omega
      refine s_ix kx4 ?_
      refine s_eq (fun kh5 => ?_) (fun kh5 => ?_)
      · have kx6 : 0 ≤ (v3).toInt ∧ (v3).toInt < (10 : Int) := by omega
        refine s_ix kx6 ?_
        have kc7 : (v3 + (1 : Int32)).toInt = (v3).toInt + 1 := a_addl L1 (by omega) (by omega)
        have kc8 := L0
        have ki9 : zI (sm_w1 m (39 + (v2).toNatClampNeg) (v3).toNatClampNeg (0 : Int32)) := zI.row hI (show 0 ≤ (v2).toInt ∧ (v2).toInt < 10 by omega)
        have kf10 : Fr wX1_layPaths m0 (sm_w1 m (39 + (v2).toNatClampNeg) (v3).toNatClampNeg (0 : Int32)) := Fr.row hF (show 0 ≤ (v2).toInt ∧ (v2).toInt < 10 by omega) rfl
        exact ih v2 (v3 + (1 : Int32)) (sm_w1 m (39 + (v2).toNatClampNeg) (v3).toNatClampNeg (0 : Int32)) (show 0 ≤ v2.toInt ∧ v2.toInt ≤ 9 ∧ 0 ≤ (v3 + (1 : Int32)).toInt ∧ (v3 + (1 : Int32)).toInt ≤ 10 ∧ 10 - (v3 + (1 : Int32)).toInt < (n : Int) ∧ 10 - v2.toInt ≤ (Nk2 : Int) by omega) ki9 kf10
      · have kx11 : 0 ≤ (v3).toInt ∧ (v3).toInt < (10 : Int) := by omega
        refine s_ix kx11 ?_
        have kc12 : (v3 + (1 : Int32)).toInt = (v3).toInt + 1 := a_addl L1 (by omega) (by omega)
        have kc13 := L65535
        have ki14 : zI (sm_w1 m (39 + (v2).toNatClampNeg) (v3).toNatClampNeg (65535 : Int32)) := zI.row hI (show 0 ≤ (v2).toInt ∧ (v2).toInt < 10 by omega)
        have kf15 : Fr wX1_layPaths m0 (sm_w1 m (39 + (v2).toNatClampNeg) (v3).toNatClampNeg (65535 : Int32)) := Fr.row hF (show 0 ≤ (v2).toInt ∧ (v2).toInt < 10 by omega) rfl
        exact ih v2 (v3 + (1 : Int32)) (sm_w1 m (39 + (v2).toNatClampNeg) (v3).toNatClampNeg (65535 : Int32)) (show 0 ≤ v2.toInt ∧ v2.toInt ≤ 9 ∧ 0 ≤ (v3 + (1 : Int32)).toInt ∧ (v3 + (1 : Int32)).toInt ≤ 10 ∧ 10 - (v3 + (1 : Int32)).toInt < (n : Int) ∧ 10 - v2.toInt ≤ (Nk2 : Int) by omega) ki14 kf15
theorem zX1_layPaths_2 (m0 : sm_S) : ∀ (n : Nat) (v2 : Int32) (m : sm_S), (0 ≤ v2.toInt ∧ v2.toInt ≤ 10 ∧ 10 - v2.toInt < (n : Int)) → zI m → Fr wX1_layPaths m0 m → Sf (fun r => (True) ∧ zI r ∧ Fr wX1_layPaths m0 r) (fX1_layPaths_2 n v2 m) := by
  intro n
  induction n with
  | zero =>
    intro v2 m hp hI hF
    exfalso
    omega
  | succ n ih =>
    intro v2 m hp hI hF
    have hnn : ((n + 1 : Nat) : Int) = (n : Int) + 1 := by omega
    have hfu := fuE
    unfold fX1_layPaths_2
    have kc1 : 0 ≤ (m.1 3 0).toInt ∧ (m.1 3 0).toInt ≤ 10 := hI.1 3 0
    refine s_le (fun kh2 => ?_) (fun kh2 => ?_)
    · have kc3 := L0
      exact zX1_layPaths_53 m0 sm_fu (0 : Int32) m (show 0 ≤ (0 : Int32).toInt ∧ (0 : Int32).toInt ≤ 14 ∧ 14 - (0 : Int32).toInt < (sm_fu : Int) by omega) hI hF
    · have kc4 := L0
      exact zX1_layPaths_12 m0 (fX1_layPaths_2 n) n ih sm_fu v2 (0 : Int32) m (show 0 ≤ v2.toInt ∧ v2.toInt ≤ 9 ∧ 0 ≤ (0 : Int32).toInt ∧ (0 : Int32).toInt ≤ 10 ∧ 10 - (0 : Int32).toInt < (sm_fu : Int) ∧ 10 - v2.toInt ≤ (n : Int) by omega) hI hF
theorem zX1_layPaths (m : sm_S) (hI : zI m) : Sf (fun r => (True) ∧ zI r ∧ Fr wX1_layPaths m r) (fX1_layPaths m) := by
  have hfu := fuE
  unfold fX1_layPaths
  have kc1 := L0
  exact zX1_layPaths_2 m sm_fu (0 : Int32) m (show 0 ≤ (0 : Int32).toInt ∧ (0 : Int32).toInt ≤ 10 ∧ 10 - (0 : Int32).toInt < (sm_fu : Int) by omega) hI Fr.refl
theorem zX1_shortenPaths_23 (m0 : sm_S) (k2 : Int32 → sm_S → Option (sm_S)) (Nk2 : Nat) (hk2 : ∀ (v2 : Int32) (m : sm_S), (0 ≤ v2.toInt ∧ v2.toInt ≤ 10 ∧ 10 - v2.toInt < (Nk2 : Int)) → zI m → Fr wX1_shortenPaths m0 m → Sf (fun r => (True) ∧ zI r ∧ Fr wX1_shortenPaths m0 r) (k2 v2 m)) (k12 : Int32 → Int32 → sm_S → Option (sm_S)) (Nk12 : Nat) (hk12 : ∀ (v2 : Int32) (v3 : Int32) (m : sm_S), (0 ≤ v2.toInt ∧ v2.toInt ≤ 9 ∧ 0 ≤ v3.toInt ∧ v3.toInt ≤ 10 ∧ 10 - v3.toInt < (Nk12 : Int) ∧ 10 - v2.toInt ≤ (Nk2 : Int)) → zI m → Fr wX1_shortenPaths m0 m → Sf (fun r => (True) ∧ zI r ∧ Fr wX1_shortenPaths m0 r) (k12 v2 v3 m)) : ∀ (n : Nat) (v2 : Int32) (v3 : Int32) (v4 : Int32) (m : sm_S), (0 ≤ v2.toInt ∧ v2.toInt ≤ 9 ∧ 0 ≤ v3.toInt ∧ v3.toInt ≤ 9 ∧ 0 ≤ v4.toInt ∧ v4.toInt ≤ 10 ∧ 10 - v4.toInt < (n : Int) ∧ 10 - v3.toInt ≤ (Nk12 : Int) ∧ 10 - v2.toInt ≤ (Nk2 : Int)) → zI m → Fr wX1_shortenPaths m0 m → Sf (fun r => (True) ∧ zI r ∧ Fr wX1_shortenPaths m0 r) (fX1_shortenPaths_23 k12 k2 n v2 v3 v4 m) := by
  intro n
  induction n with
  | zero =>
    intro v2 v3 v4 m hp hI hF
    exfalso
    omega
  | succ n ih =>
    intro v2 v3 v4 m hp hI hF
    have hnn : ((n + 1 : Nat) : Int) = (n : Int) + 1 := by omega
    have hfu := fuE
    unfold fX1_shortenPaths_23
    have kc1 : 0 ≤ (m.1 3 0).toInt ∧ (m.1 3 0).toInt ≤ 10 := hI.1 3 0
    refine s_le (fun kh2 => ?_) (fun kh2 => ?_)
    · have kc3 : (v3 + (1 : Int32)).toInt = (v3).toInt + 1 := a_addl L1 (by omega) (by omega)
      exact hk12 v2 (v3 + (1 : Int32)) m (show 0 ≤ v2.toInt ∧ v2.toInt ≤ 9 ∧ 0 ≤ (v3 + (1 : Int32)).toInt ∧ (v3 + (1 : Int32)).toInt ≤ 10 ∧ 10 - (v3 + (1 : Int32)).toInt < (Nk12 : Int) ∧ 10 - v2.toInt ≤ (Nk2 : Int) by omega) hI hF
    · have kx4 : 0 ≤ (v3).toInt ∧ (v3).toInt < (10 : Int) := by omega
      refine s_ix kx4 ?_
      refine s_ix kx4 ?_
      have kx5 : 0 ≤ (v4).toInt ∧ (v4).toInt < (10 : Int) := by omega
      refine s_ix kx5 ?_
      refine s_ix kx4 ?_
      have kx6 : 0 ≤ (v2).toInt ∧ (v2).toInt < (10 : Int) := by omega
      refine s_ix kx6 ?_
      refine s_ix kx6 ?_
      refine s_ix kx5 ?_
      refine s_ix kx5 ?_
      have kc7 : (v4 + (1 : Int32)).toInt = (v4).toInt + 1 := a_addl L1 (by omega) (by omega)
      have kc8 : ((((m.1 (39 + (v3).toNatClampNeg) (v2).toNatClampNeg) + (m.1 (39 + (v2).toNatClampNeg) (v4).toNatClampNeg))).toInt < ((m.1 (39 + (v3).toNatClampNeg) (v4).toNatClampNeg)).toInt ∧ (if ((m.1 (39 + (v3).toNatClampNeg) (v2).toNatClampNeg) + (m.1 (39 + (v2).toNatClampNeg) (v4).toNatClampNeg)) < (m.1 (39 + (v3).toNatClampNeg) (v4).toNatClampNeg) then ((m.1 (39 + (v3).toNatClampNeg) (v2).toNatClampNeg) + (m.1 (39 + (v2).toNatClampNeg) (v4).toNatClampNeg)) else (m.1 (39 + (v3).toNatClampNeg) (v4).toNatClampNeg)).toInt = (((m.1 (39 + (v3).toNatClampNeg) (v2).toNatClampNeg) + (m.1 (39 + (v2).toNatClampNeg) (v4).toNatClampNeg))).toInt) ∨ (((m.1 (39 + (v3).toNatClampNeg) (v4).toNatClampNeg)).toInt ≤ (((m.1 (39 + (v3).toNatClampNeg) (v2).toNatClampNeg) + (m.1 (39 + (v2).toNatClampNeg) (v4).toNatClampNeg))).toInt ∧ (if ((m.1 (39 + (v3).toNatClampNeg) (v2).toNatClampNeg) + (m.1 (39 + (v2).toNatClampNeg) (v4).toNatClampNeg)) < (m.1 (39 + (v3).toNatClampNeg) (v4).toNatClampNeg) then ((m.1 (39 + (v3).toNatClampNeg) (v2).toNatClampNeg) + (m.1 (39 + (v2).toNatClampNeg) (v4).toNatClampNeg)) else (m.1 (39 + (v3).toNatClampNeg) (v4).toNatClampNeg)).toInt = ((m.1 (39 + (v3).toNatClampNeg) (v4).toNatClampNeg)).toInt) := a_ilt
      have ki9 : zI (sm_w1 m (39 + (v3).toNatClampNeg) (v4).toNatClampNeg (if ((m.1 (39 + (v3).toNatClampNeg) (v2).toNatClampNeg) + (m.1 (39 + (v2).toNatClampNeg) (v4).toNatClampNeg)) < (m.1 (39 + (v3).toNatClampNeg) (v4).toNatClampNeg) then ((m.1 (39 + (v3).toNatClampNeg) (v2).toNatClampNeg) + (m.1 (39 + (v2).toNatClampNeg) (v4).toNatClampNeg)) else (m.1 (39 + (v3).toNatClampNeg) (v4).toNatClampNeg))) := zI.row hI (show 0 ≤ (v3).toInt ∧ (v3).toInt < 10 by omega)
      have kf10 : Fr wX1_shortenPaths m0 (sm_w1 m (39 + (v3).toNatClampNeg) (v4).toNatClampNeg (if ((m.1 (39 + (v3).toNatClampNeg) (v2).toNatClampNeg) + (m.1 (39 + (v2).toNatClampNeg) (v4).toNatClampNeg)) < (m.1 (39 + (v3).toNatClampNeg) (v4).toNatClampNeg) then ((m.1 (39 + (v3).toNatClampNeg) (v2).toNatClampNeg) + (m.1 (39 + (v2).toNatClampNeg) (v4).toNatClampNeg)) else (m.1 (39 + (v3).toNatClampNeg) (v4).toNatClampNeg))) := Fr.row hF (show 0 ≤ (v3).toInt ∧ (v3).toInt < 10 by omega) rfl
      exact ih v2 v3 (v4 + (1 : Int32)) (sm_w1 m (39 + (v3).toNatClampNeg) (v4).toNatClampNeg (if ((m.1 (39 + (v3).toNatClampNeg) (v2).toNatClampNeg) + (m.1 (39 + (v2).toNatClampNeg) (v4).toNatClampNeg)) < (m.1 (39 + (v3).toNatClampNeg) (v4).toNatClampNeg) then ((m.1 (39 + (v3).toNatClampNeg) (v2).toNatClampNeg) + (m.1 (39 + (v2).toNatClampNeg) (v4).toNatClampNeg)) else (m.1 (39 + (v3).toNatClampNeg) (v4).toNatClampNeg))) (show 0 ≤ v2.toInt ∧ v2.toInt ≤ 9 ∧ 0 ≤ v3.toInt ∧ v3.toInt ≤ 9 ∧ 0 ≤ (v4 + (1 : Int32)).toInt ∧ (v4 + (1 : Int32)).toInt ≤ 10 ∧ 10 - (v4 + (1 : Int32)).toInt < (n : Int) ∧ 10 - v3.toInt ≤ (Nk12 : Int) ∧ 10 - v2.toInt ≤ (Nk2 : Int) by omega) ki9 kf10
theorem zX1_shortenPaths_12 (m0 : sm_S) (k2 : Int32 → sm_S → Option (sm_S)) (Nk2 : Nat) (hk2 : ∀ (v2 : Int32) (m : sm_S), (0 ≤ v2.toInt ∧ v2.toInt ≤ 10 ∧ 10 - v2.toInt < (Nk2 : Int)) → zI m → Fr wX1_shortenPaths m0 m → Sf (fun r => (True) ∧ zI r ∧ Fr wX1_shortenPaths m0 r) (k2 v2 m)) : ∀ (n : Nat) (v2 : Int32) (v3 : Int32) (m : sm_S), (0 ≤ v2.toInt ∧ v2.toInt ≤ 9 ∧ 0 ≤ v3.toInt ∧ v3.toInt ≤ 10 ∧ 10 - v3.toInt < (n : Int) ∧ 10 - v2.toInt ≤ (Nk2 : Int)) → zI m → Fr wX1_shortenPaths m0 m → Sf (fun r => (True) ∧ zI r ∧ Fr wX1_shortenPaths m0 r) (fX1_shortenPaths_12 k2 n v2 v3 m) := by
  intro n
  induction n with
  | zero =>
    intro v2 v3 m hp hI hF
    exfalso
    omega
  | succ n ih =>
    intro v2 v3 m hp hI hF
    have hnn : ((n + 1 : Nat) : Int) = (n : Int) + 1 := by omega
    have hfu := fuE
    unfold fX1_shortenPaths_12
    have kc1 : 0 ≤ (m.1 3 0).toInt ∧ (m.1 3 0).toInt ≤ 10 := hI.1 3 0
    refine s_le (fun kh2 => ?_) (fun kh2 => ?_)
    · have kc3 : (v2 + (1 : Int32)).toInt = (v2).toInt + 1 := a_addl L1 (by omega) (by omega)
      exact hk2 (v2 + (1 : Int32)) m (show 0 ≤ (v2 + (1 : Int32)).toInt ∧ (v2 + (1 : Int32)).toInt ≤ 10 ∧ 10 - (v2 + (1 : Int32)).toInt < (Nk2 : Int) by omega) hI hF
    · have kc4 := L0
      exact zX1_shortenPaths_23 m0 k2 Nk2 hk2 (fX1_shortenPaths_12 k2 n) n ih sm_fu v2 v3 (0 : Int32) m (show 0 ≤ v2.toInt ∧ v2.toInt ≤ 9 ∧ 0 ≤ v3.toInt ∧ v3.toInt ≤ 9 ∧ 0 ≤ (0 : Int32).toInt ∧ (0 : Int32).toInt ≤ 10 ∧ 10 - (0 : Int32).toInt < (sm_fu : Int) ∧ 10 - v3.toInt ≤ (n : Int) ∧ 10 - v2.toInt ≤ (Nk2 : Int) by omega) hI hF
theorem zX1_shortenPaths_2 (m0 : sm_S) : ∀ (n : Nat) (v2 : Int32) (m : sm_S), (0 ≤ v2.toInt ∧ v2.toInt ≤ 10 ∧ 10 - v2.toInt < (n : Int)) → zI m → Fr wX1_shortenPaths m0 m → Sf (fun r => (True) ∧ zI r ∧ Fr wX1_shortenPaths m0 r) (fX1_shortenPaths_2 n v2 m) := by
  intro n
  induction n with
  | zero =>
    intro v2 m hp hI hF
    exfalso
    omega
  | succ n ih =>
    intro v2 m hp hI hF
    have hnn : ((n + 1 : Nat) : Int) = (n : Int) + 1 := by omega
    have hfu := fuE
    unfold fX1_shortenPaths_2
    have kc1 : 0 ≤ (m.1 3 0).toInt ∧ (m.1 3 0).toInt ≤ 10 := hI.1 3 0
    refine s_le (fun kh2 => ?_) (fun kh2 => ?_)
    · exact s_ret ⟨trivial, hI, hF⟩
    · have kc3 := L0
      exact zX1_shortenPaths_12 m0 (fX1_shortenPaths_2 n) n ih sm_fu v2 (0 : Int32) m (show 0 ≤ v2.toInt ∧ v2.toInt ≤ 9 ∧ 0 ≤ (0 : Int32).toInt ∧ (0 : Int32).toInt ≤ 10 ∧ 10 - (0 : Int32).toInt < (sm_fu : Int) ∧ 10 - v2.toInt ≤ (n : Int) by omega) hI hF
theorem zX1_shortenPaths (m : sm_S) (hI : zI m) : Sf (fun r => (True) ∧ zI r ∧ Fr wX1_shortenPaths m r) (fX1_shortenPaths m) := by
  have hfu := fuE
  unfold fX1_shortenPaths
  have kc1 := L0
  exact zX1_shortenPaths_2 m sm_fu (0 : Int32) m (show 0 ≤ (0 : Int32).toInt ∧ (0 : Int32).toInt ≤ 10 ∧ 10 - (0 : Int32).toInt < (sm_fu : Int) by omega) hI Fr.refl
theorem zX1_numberInPart_20 (m0 : sm_S) : ∀ (n : Nat) (v1 : Int32) (v2 : Int32) (m : sm_S), (0 ≤ v1.toInt ∧ v1.toInt ≤ 9 ∧ (-1 : Int) ≤ v2.toInt ∧ v2.toInt ≤ 8 ∧ v2.toInt + 1 < (n : Int)) → zI m → Fr wX1_numberInPart m0 m → Sf (fun r => (True) ∧ zI r ∧ Fr wX1_numberInPart m0 r) (fX1_numberInPart_20 n v1 v2 m) := by
  intro n
  induction n with
  | zero =>
    intro v1 v2 m hp hI hF
    exfalso
    omega
  | succ n ih =>
    intro v1 v2 m hp hI hF
    have hnn : ((n + 1 : Nat) : Int) = (n : Int) + 1 := by omega
    have hfu := fuE
    unfold fX1_numberInPart_20
    simp only [a_m1, a_m8]
    have kc1 := L0
    refine s_lt (fun kh2 => ?_) (fun kh2 => ?_)
    · exact s_ret ⟨trivial, hI, hF⟩
    · have kx3 : 0 ≤ (v2).toInt ∧ (v2).toInt < (10 : Int) := by omega
      refine s_ix kx3 ?_
      have kx4 : 0 ≤ (v1).toInt ∧ (v1).toInt < (10 : Int) := by omega
      refine s_ix kx4 ?_
      have kc5 := L65535
      refine s_le (fun kh6 => ?_) (fun kh6 => ?_)
      · have kc7 : (v2 - (1 : Int32)).toInt = (v2).toInt - 1 := a_subl L1 (by omega) (by omega)
        exact ih v1 (v2 - (1 : Int32)) m (show 0 ≤ v1.toInt ∧ v1.toInt ≤ 9 ∧ (-1 : Int) ≤ (v2 - (1 : Int32)).toInt ∧ (v2 - (1 : Int32)).toInt ≤ 8 ∧ (v2 - (1 : Int32)).toInt + 1 < (n : Int) by omega) hI hF
      · refine s_ix kx4 ?_
        refine s_ix kx4 ?_
        refine s_ix kx4 ?_
        have kc8 : (v2 - (1 : Int32)).toInt = (v2).toInt - 1 := a_subl L1 (by omega) (by omega)
        have kc9 := L1
        have kc10 := L31
        have kc11 : 0 ≤ (v2 &&& (31 : Int32)).toInt ∧ (v2 &&& (31 : Int32)).toInt ≤ ((31 : Int32)).toInt := a_andr (by omega)
        have kc12 : 0 ≤ (v2 &&& (31 : Int32)).toInt ∧ (v2 &&& (31 : Int32)).toInt ≤ (v2).toInt := a_andl (by omega)
        have kc13 : 1 ≤ ((1 : Int32) <<< (v2 &&& (31 : Int32))).toInt ∧ ((1 : Int32) <<< (v2 &&& (31 : Int32))).toInt ≤ 256 := a_shl 8 (by decide) (by decide) (by omega) (by omega)
        have ki14 : zI (sm_w1 m 36 (v1).toNatClampNeg ((1 : Int32) <<< (v2 &&& (31 : Int32)))) := zI.w hI rfl (show 0 ≤ (((1 : Int32) <<< (v2 &&& (31 : Int32)))).toInt ∧ (((1 : Int32) <<< (v2 &&& (31 : Int32)))).toInt ≤ 870 by omega)
        have ki15 : zI (sm_w1 (sm_w1 m 36 (v1).toNatClampNeg ((1 : Int32) <<< (v2 &&& (31 : Int32)))) 37 (v1).toNatClampNeg ((m.1 37 (v1).toNatClampNeg) + (1 : Int32))) := zI.w ki14 rfl (rg _)
        have kf16 : Fr wX1_numberInPart m0 (sm_w1 m 36 (v1).toNatClampNeg ((1 : Int32) <<< (v2 &&& (31 : Int32)))) := Fr.w hF rfl
        have kf17 : Fr wX1_numberInPart m0 (sm_w1 (sm_w1 m 36 (v1).toNatClampNeg ((1 : Int32) <<< (v2 &&& (31 : Int32)))) 37 (v1).toNatClampNeg ((m.1 37 (v1).toNatClampNeg) + (1 : Int32))) := Fr.w kf16 rfl
        exact ih v1 (v2 - (1 : Int32)) (sm_w1 (sm_w1 m 36 (v1).toNatClampNeg ((1 : Int32) <<< (v2 &&& (31 : Int32)))) 37 (v1).toNatClampNeg ((m.1 37 (v1).toNatClampNeg) + (1 : Int32))) (show 0 ≤ v1.toInt ∧ v1.toInt ≤ 9 ∧ (-1 : Int) ≤ (v2 - (1 : Int32)).toInt ∧ (v2 - (1 : Int32)).toInt ≤ 8 ∧ (v2 - (1 : Int32)).toInt + 1 < (n : Int) by omega) ki15 kf17
theorem zX1_numberInPart (x1 : Int32) (m : sm_S) (hp : 0 ≤ x1.toInt ∧ x1.toInt ≤ 9) (hI : zI m) : Sf (fun r => (True) ∧ zI r ∧ Fr wX1_numberInPart m r) (fX1_numberInPart x1 m) := by
  have hfu := fuE
  unfold fX1_numberInPart
  have kx1 : 0 ≤ (x1).toInt ∧ (x1).toInt < (10 : Int) := by omega
  refine s_ix kx1 ?_
  refine s_ix kx1 ?_
  have kc2 : (x1 - (1 : Int32)).toInt = (x1).toInt - 1 := a_subl L1 (by omega) (by omega)
  have kc3 := L1
  have kc4 := L31
  have kc5 : 0 ≤ (x1 &&& (31 : Int32)).toInt ∧ (x1 &&& (31 : Int32)).toInt ≤ ((31 : Int32)).toInt := a_andr (by omega)
  have kc6 : 0 ≤ (x1 &&& (31 : Int32)).toInt ∧ (x1 &&& (31 : Int32)).toInt ≤ (x1).toInt := a_andl (by omega)
  have kc7 : 1 ≤ ((1 : Int32) <<< (x1 &&& (31 : Int32))).toInt ∧ ((1 : Int32) <<< (x1 &&& (31 : Int32))).toInt ≤ 512 := a_shl 9 (by decide) (by decide) (by omega) (by omega)
  have ki8 : zI (sm_w1 m 36 (x1).toNatClampNeg ((1 : Int32) <<< (x1 &&& (31 : Int32)))) := zI.w hI rfl (show 0 ≤ (((1 : Int32) <<< (x1 &&& (31 : Int32)))).toInt ∧ (((1 : Int32) <<< (x1 &&& (31 : Int32)))).toInt ≤ 870 by omega)
  have kc9 := L0
  have ki10 : zI (sm_w1 (sm_w1 m 36 (x1).toNatClampNeg ((1 : Int32) <<< (x1 &&& (31 : Int32)))) 37 (x1).toNatClampNeg (0 : Int32)) := zI.w ki8 rfl (rg _)
  have kf11 : Fr wX1_numberInPart m (sm_w1 m 36 (x1).toNatClampNeg ((1 : Int32) <<< (x1 &&& (31 : Int32)))) := Fr.w Fr.refl rfl
  have kf12 : Fr wX1_numberInPart m (sm_w1 (sm_w1 m 36 (x1).toNatClampNeg ((1 : Int32) <<< (x1 &&& (31 : Int32)))) 37 (x1).toNatClampNeg (0 : Int32)) := Fr.w kf11 rfl
  exact zX1_numberInPart_20 m sm_fu x1 (x1 - (1 : Int32)) (sm_w1 (sm_w1 m 36 (x1).toNatClampNeg ((1 : Int32) <<< (x1 &&& (31 : Int32)))) 37 (x1).toNatClampNeg (0 : Int32)) (show 0 ≤ x1.toInt ∧ x1.toInt ≤ 9 ∧ (-1 : Int) ≤ (x1 - (1 : Int32)).toInt ∧ (x1 - (1 : Int32)).toInt ≤ 8 ∧ (x1 - (1 : Int32)).toInt + 1 < (sm_fu : Int) by omega) ki10 kf12
theorem zX1_prepare_73 (m0 : sm_S) : ∀ (n : Nat) (v2 : Int32) (m : sm_S), (0 ≤ v2.toInt ∧ v2.toInt ≤ 10 ∧ 10 - v2.toInt < (n : Int)) → zI m → Fr wX1_prepare m0 m → Sf (fun r => (True) ∧ zI r ∧ Fr wX1_prepare m0 r) (fX1_prepare_73 n v2 m) := by
  intro n
  induction n with
  | zero =>
    intro v2 m hp hI hF
    exfalso
    omega
  | succ n ih =>
    intro v2 m hp hI hF
    have hnn : ((n + 1 : Nat) : Int) = (n : Int) + 1 := by omega
    have hfu := fuE
    unfold fX1_prepare_73
    have kc1 : 0 ≤ (m.1 3 0).toInt ∧ (m.1 3 0).toInt ≤ 10 := hI.1 3 0
    refine s_le (fun kh2 => ?_) (fun kh2 => ?_)
    · exact s_ret ⟨trivial, hI, hF⟩
    · refine s_bd (zX1_numberInPart v2 m (show 0 ≤ v2.toInt ∧ v2.toInt ≤ 9 by omega) hI) (fun m6 kr3 => ?_)
      obtain ⟨kp4, ki5, kf6⟩ := kr3
      have kc7 : (v2 + (1 : Int32)).toInt = (v2).toInt + 1 := a_addl L1 (by omega) (by omega)
      have kf8 : Fr wX1_prepare m0 m6 := Fr.trans hF kf6 rfl
      exact ih (v2 + (1 : Int32)) m6 (show 0 ≤ (v2 + (1 : Int32)).toInt ∧ (v2 + (1 : Int32)).toInt ≤ 10 ∧ 10 - (v2 + (1 : Int32)).toInt < (n : Int) by omega) ki5 kf8
theorem zX1_prepare_7 (m0 : sm_S) : ∀ (n : Nat) (v2 : Int32) (m : sm_S), (0 ≤ v2.toInt ∧ v2.toInt ≤ 14 ∧ 14 - v2.toInt < (n : Int) ∧ (m.1 34 1).toInt ≤ v2.toInt) → zI m → Fr wX1_prepare m0 m → Sf (fun r => (True) ∧ zI r ∧ Fr wX1_prepare m0 r) (fX1_prepare_7 n v2 m) := by
  intro n
  induction n with
  | zero =>
    intro v2 m hp hI hF
    have kc1 : 0 ≤ (m.1 34 1).toInt ∧ (m.1 34 1).toInt ≤ 14 := hI.1 34 1
    exfalso
    omega
  | succ n ih =>
    intro v2 m hp hI hF
    have hnn : ((n + 1 : Nat) : Int) = (n : Int) + 1 := by omega
    have hfu := fuE
    have kc1 : 0 ≤ (m.1 34 1).toInt ∧ (m.1 34 1).toInt ≤ 14 := hI.1 34 1
    unfold fX1_prepare_7
    have kc2 : 0 ≤ (m.1 3 1).toInt ∧ (m.1 3 1).toInt ≤ 14 := hI.1 3 1
    refine s_le (fun kh3 => ?_) (fun kh3 => ?_)
    · have kc4 := L15
      have kc5 : ((15 : Int32) - (m.1 34 1)).toInt = ((15 : Int32)).toInt - ((m.1 34 1)).toInt := a_sub (by omega) (by omega)
      have ki6 : zI (sm_w1 m 34 2 ((15 : Int32) - (m.1 34 1))) := zI.w hI rfl (show 0 ≤ (((15 : Int32) - (m.1 34 1))).toInt ∧ (((15 : Int32) - (m.1 34 1))).toInt ≤ 15 by omega)
      refine s_bd (zX1_layPaths (sm_w1 m 34 2 ((15 : Int32) - (m.1 34 1))) ki6) (fun m2 kr7 => ?_)
      obtain ⟨kp8, ki9, kf10⟩ := kr7
      refine s_bd (zX1_shortenPaths m2 ki9) (fun m4 kr11 => ?_)
      obtain ⟨kp12, ki13, kf14⟩ := kr11
      have kc15 := L0
      have kf16 : Fr wX1_prepare m0 (sm_w1 m 34 2 ((15 : Int32) - (m.1 34 1))) := Fr.w hF rfl
      have kf17 : Fr wX1_prepare m0 m2 := Fr.trans kf16 kf10 rfl
      have kf18 : Fr wX1_prepare m0 m4 := Fr.trans kf17 kf14 rfl
      exact zX1_prepare_73 m0 sm_fu (0 : Int32) m4 (show 0 ≤ (0 : Int32).toInt ∧ (0 : Int32).toInt ≤ 10 ∧ 10 - (0 : Int32).toInt < (sm_fu : Int) by omega) ki13 kf18
    · have kx19 : 0 ≤ (v2).toInt ∧ (v2).toInt < (14 : Int) := by omega
      refine s_ix kx19 ?_
      have kc20 : 0 ≤ (m.1 13 (v2).toNatClampNeg).toInt ∧ (m.1 13 (v2).toNatClampNeg).toInt ≤ 1 := hI.1 13 (v2).toNatClampNeg
      have kc21 := L0
      refine s_eq (fun kh22 => ?_) (fun kh22 => ?_)
      · have kc23 : (v2 + (1 : Int32)).toInt = (v2).toInt + 1 := a_addl L1 (by omega) (by omega)
        exact ih (v2 + (1 : Int32)) m (show 0 ≤ (v2 + (1 : Int32)).toInt ∧ (v2 + (1 : Int32)).toInt ≤ 14 ∧ 14 - (v2 + (1 : Int32)).toInt < (n : Int) ∧ (m.1 34 1).toInt ≤ (v2 + (1 : Int32)).toInt by omega) hI hF
      · have kx24 : 0 ≤ ((m.1 34 1)).toInt ∧ ((m.1 34 1)).toInt < (14 : Int) := by omega
        refine s_ix kx24 ?_
        have kc25 : (v2 + (1 : Int32)).toInt = (v2).toInt + 1 := a_addl L1 (by omega) (by omega)
        have ki26 : zI (sm_w1 m 35 ((m.1 34 1)).toNatClampNeg v2) := zI.w hI rfl (show 0 ≤ (v2).toInt ∧ (v2).toInt ≤ 13 by omega)
        have kc27 : ((m.1 34 1) + (1 : Int32)).toInt = ((m.1 34 1)).toInt + 1 := a_addl L1 (by omega) (by omega)
        have ki28 : zI (sm_w1 (sm_w1 m 35 ((m.1 34 1)).toNatClampNeg v2) 34 1 ((m.1 34 1) + (1 : Int32))) := zI.w ki26 rfl (show 0 ≤ (((m.1 34 1) + (1 : Int32))).toInt ∧ (((m.1 34 1) + (1 : Int32))).toInt ≤ 14 by omega)
        have kc29 : 0 ≤ ((sm_w1 (sm_w1 m 35 ((m.1 34 1)).toNatClampNeg v2) 34 1 ((m.1 34 1) + (1 : Int32))).1 34 1).toInt ∧ ((sm_w1 (sm_w1 m 35 ((m.1 34 1)).toNatClampNeg v2) 34 1 ((m.1 34 1) + (1 : Int32))).1 34 1).toInt ≤ 14 := ki28.1 34 1
        have kc30 : ((sm_w1 (sm_w1 m 35 ((m.1 34 1)).toNatClampNeg v2) 34 1 ((m.1 34 1) + (1 : Int32))).1 34 1).toInt = (((m.1 34 1) + (1 : Int32))).toInt := rfl
        have kf31 : Fr wX1_prepare m0 (sm_w1 m 35 ((m.1 34 1)).toNatClampNeg v2) := Fr.w hF rfl
        have kf32 : Fr wX1_prepare m0 (sm_w1 (sm_w1 m 35 ((m.1 34 1)).toNatClampNeg v2) 34 1 ((m.1 34 1) + (1 : Int32))) := Fr.w kf31 rfl
        exact ih (v2 + (1 : Int32)) (sm_w1 (sm_w1 m 35 ((m.1 34 1)).toNatClampNeg v2) 34 1 ((m.1 34 1) + (1 : Int32))) (show 0 ≤ (v2 + (1 : Int32)).toInt ∧ (v2 + (1 : Int32)).toInt ≤ 14 ∧ 14 - (v2 + (1 : Int32)).toInt < (n : Int) ∧ ((sm_w1 (sm_w1 m 35 ((m.1 34 1)).toNatClampNeg v2) 34 1 ((m.1 34 1) + (1 : Int32))).1 34 1).toInt ≤ (v2 + (1 : Int32)).toInt by omega) ki28 kf32
theorem zX1_prepare (m : sm_S) (hI : zI m) : Sf (fun r => (True) ∧ zI r ∧ Fr wX1_prepare m r) (fX1_prepare m) := by
  have hfu := fuE
  unfold fX1_prepare
  have kc1 := L0
  have ki2 : zI (sm_w1 m 34 1 (0 : Int32)) := zI.w hI rfl (show 0 ≤ ((0 : Int32)).toInt ∧ ((0 : Int32)).toInt ≤ 14 by omega)
  have kc3 : 0 ≤ ((sm_w1 m 34 1 (0 : Int32)).1 34 1).toInt ∧ ((sm_w1 m 34 1 (0 : Int32)).1 34 1).toInt ≤ 14 := ki2.1 34 1
  have kc4 : ((sm_w1 m 34 1 (0 : Int32)).1 34 1).toInt = ((0 : Int32)).toInt := rfl
  have kf5 : Fr wX1_prepare m (sm_w1 m 34 1 (0 : Int32)) := Fr.w Fr.refl rfl
  exact zX1_prepare_7 m sm_fu (0 : Int32) (sm_w1 m 34 1 (0 : Int32)) (show 0 ≤ (0 : Int32).toInt ∧ (0 : Int32).toInt ≤ 14 ∧ 14 - (0 : Int32).toInt < (sm_fu : Int) ∧ ((sm_w1 m 34 1 (0 : Int32)).1 34 1).toInt ≤ (0 : Int32).toInt by omega) ki2 kf5
theorem zX1_partAfter_11 : ∀ (n : Nat) (v3 : Int32) (v4 : Int32) (v5 : Int32) (m : sm_S), (0 ≤ v3.toInt ∧ v3.toInt ≤ 16383 ∧ 0 ≤ v4.toInt ∧ v4.toInt ≤ 1023 ∧ 0 ≤ v5.toInt ∧ v5.toInt ≤ 14 ∧ 14 - v5.toInt < (n : Int)) → zI m → Sf (fun r => (0 ≤ r.toInt) ∧ (r.toInt ≤ 1023)) (fX1_partAfter_11 n v3 v4 v5 m) := by
  intro n
  induction n with
  | zero =>
    intro v3 v4 v5 m hp hI
    exfalso
    omega
  | succ n ih =>
    intro v3 v4 v5 m hp hI
    have hnn : ((n + 1 : Nat) : Int) = (n : Int) + 1 := by omega
    have hfu := fuE
    unfold fX1_partAfter_11
    have kc1 : 0 ≤ (m.1 34 1).toInt ∧ (m.1 34 1).toInt ≤ 14 := hI.1 34 1
    refine s_le (fun kh2 => ?_) (fun kh2 => ?_)
    · exact s_ret (show (0 ≤ v4.toInt) ∧ (v4.toInt ≤ 1023) by omega)
    · have kc3 := L31
      have kc4 : 0 ≤ (v5 &&& (31 : Int32)).toInt ∧ (v5 &&& (31 : Int32)).toInt ≤ ((31 : Int32)).toInt := a_andr (by omega)
      have kc5 : 0 ≤ (v5 &&& (31 : Int32)).toInt ∧ (v5 &&& (31 : Int32)).toInt ≤ (v5).toInt := a_andl (by omega)
      have kc6 : 0 ≤ (v3 >>> (v5 &&& (31 : Int32))).toInt ∧ (v3 >>> (v5 &&& (31 : Int32))).toInt ≤ (v3).toInt := a_shr (by omega)
      have kc7 := L1
      have kc8 : 0 ≤ ((v3 >>> (v5 &&& (31 : Int32))) &&& (1 : Int32)).toInt ∧ ((v3 >>> (v5 &&& (31 : Int32))) &&& (1 : Int32)).toInt ≤ ((1 : Int32)).toInt := a_andr (by omega)
      have kc9 : 0 ≤ ((v3 >>> (v5 &&& (31 : Int32))) &&& (1 : Int32)).toInt ∧ ((v3 >>> (v5 &&& (31 : Int32))) &&& (1 : Int32)).toInt ≤ ((v3 >>> (v5 &&& (31 : Int32)))).toInt := a_andl (by omega)
      have kc10 := L0
      refine s_eq (fun kh11 => ?_) (fun kh11 => ?_)
      · have kc12 : (v5 + (1 : Int32)).toInt = (v5).toInt + 1 := a_addl L1 (by omega) (by omega)
        exact ih v3 v4 (v5 + (1 : Int32)) m (show 0 ≤ v3.toInt ∧ v3.toInt ≤ 16383 ∧ 0 ≤ v4.toInt ∧ v4.toInt ≤ 1023 ∧ 0 ≤ (v5 + (1 : Int32)).toInt ∧ (v5 + (1 : Int32)).toInt ≤ 14 ∧ 14 - (v5 + (1 : Int32)).toInt < (n : Int) by omega) hI
      · have kx13 : 0 ≤ (v5).toInt ∧ (v5).toInt < (14 : Int) := by omega
        refine s_ix kx13 ?_
        have kc14 : 0 ≤ (m.1 35 (v5).toNatClampNeg).toInt ∧ (m.1 35 (v5).toNatClampNeg).toInt ≤ 13 := hI.1 35 (v5).toNatClampNeg
        have kx15 : 0 ≤ ((m.1 35 (v5).toNatClampNeg)).toInt ∧ ((m.1 35 (v5).toNatClampNeg)).toInt < (14 : Int) := by omega
        refine s_ix kx15 ?_
        have kc16 : 0 ≤ (m.1 6 ((m.1 35 (v5).toNatClampNeg)).toNatClampNeg).toInt ∧ (m.1 6 ((m.1 35 (v5).toNatClampNeg)).toNatClampNeg).toInt ≤ 9 := hI.1 6 ((m.1 35 (v5).toNatClampNeg)).toNatClampNeg
        have kx17 : 0 ≤ ((m.1 6 ((m.1 35 (v5).toNatClampNeg)).toNatClampNeg)).toInt ∧ ((m.1 6 ((m.1 35 (v5).toNatClampNeg)).toNatClampNeg)).toInt < (10 : Int) := by omega
        refine s_ix kx17 ?_
        refine s_ix kx15 ?_
        have kc18 : 0 ≤ (m.1 7 ((m.1 35 (v5).toNatClampNeg)).toNatClampNeg).toInt ∧ (m.1 7 ((m.1 35 (v5).toNatClampNeg)).toNatClampNeg).toInt ≤ 9 := hI.1 7 ((m.1 35 (v5).toNatClampNeg)).toNatClampNeg
        have kx19 : 0 ≤ ((m.1 7 ((m.1 35 (v5).toNatClampNeg)).toNatClampNeg)).toInt ∧ ((m.1 7 ((m.1 35 (v5).toNatClampNeg)).toNatClampNeg)).toInt < (10 : Int) := by omega
        refine s_ix kx19 ?_
        have kc20 : 0 ≤ (m.1 36 ((m.1 6 ((m.1 35 (v5).toNatClampNeg)).toNatClampNeg)).toNatClampNeg).toInt ∧ (m.1 36 ((m.1 6 ((m.1 35 (v5).toNatClampNeg)).toNatClampNeg)).toNatClampNeg).toInt ≤ 870 := hI.1 36 ((m.1 6 ((m.1 35 (v5).toNatClampNeg)).toNatClampNeg)).toNatClampNeg
        have kc21 : 0 ≤ (m.1 36 ((m.1 7 ((m.1 35 (v5).toNatClampNeg)).toNatClampNeg)).toNatClampNeg).toInt ∧ (m.1 36 ((m.1 7 ((m.1 35 (v5).toNatClampNeg)).toNatClampNeg)).toNatClampNeg).toInt ≤ 870 := hI.1 36 ((m.1 7 ((m.1 35 (v5).toNatClampNeg)).toNatClampNeg)).toNatClampNeg
        have kc22 : 0 ≤ ((m.1 36 ((m.1 6 ((m.1 35 (v5).toNatClampNeg)).toNatClampNeg)).toNatClampNeg) ^^^ (m.1 36 ((m.1 7 ((m.1 35 (v5).toNatClampNeg)).toNatClampNeg)).toNatClampNeg)).toInt ∧ ((m.1 36 ((m.1 6 ((m.1 35 (v5).toNatClampNeg)).toNatClampNeg)).toNatClampNeg) ^^^ (m.1 36 ((m.1 7 ((m.1 35 (v5).toNatClampNeg)).toNatClampNeg)).toNatClampNeg)).toInt < 1024 := a_xor 10 (by decide) (by decide) (by omega) (by omega) (by omega) (by omega)
        have kc23 : 0 ≤ (v4 ^^^ ((m.1 36 ((m.1 6 ((m.1 35 (v5).toNatClampNeg)).toNatClampNeg)).toNatClampNeg) ^^^ (m.1 36 ((m.1 7 ((m.1 35 (v5).toNatClampNeg)).toNatClampNeg)).toNatClampNeg))).toInt ∧ (v4 ^^^ ((m.1 36 ((m.1 6 ((m.1 35 (v5).toNatClampNeg)).toNatClampNeg)).toNatClampNeg) ^^^ (m.1 36 ((m.1 7 ((m.1 35 (v5).toNatClampNeg)).toNatClampNeg)).toNatClampNeg))).toInt < 1024 := a_xor 10 (by decide) (by decide) (by omega) (by omega) (by omega) (by omega)
        have kc24 : (v5 + (1 : Int32)).toInt = (v5).toInt + 1 := a_addl L1 (by omega) (by omega)
        exact ih v3 (v4 ^^^ ((m.1 36 ((m.1 6 ((m.1 35 (v5).toNatClampNeg)).toNatClampNeg)).toNatClampNeg) ^^^ (m.1 36 ((m.1 7 ((m.1 35 (v5).toNatClampNeg)).toNatClampNeg)).toNatClampNeg))) (v5 + (1 : Int32)) m (show 0 ≤ v3.toInt ∧ v3.toInt ≤ 16383 ∧ 0 ≤ (v4 ^^^ ((m.1 36 ((m.1 6 ((m.1 35 (v5).toNatClampNeg)).toNatClampNeg)).toNatClampNeg) ^^^ (m.1 36 ((m.1 7 ((m.1 35 (v5).toNatClampNeg)).toNatClampNeg)).toNatClampNeg))).toInt ∧ (v4 ^^^ ((m.1 36 ((m.1 6 ((m.1 35 (v5).toNatClampNeg)).toNatClampNeg)).toNatClampNeg) ^^^ (m.1 36 ((m.1 7 ((m.1 35 (v5).toNatClampNeg)).toNatClampNeg)).toNatClampNeg))).toInt ≤ 1023 ∧ 0 ≤ (v5 + (1 : Int32)).toInt ∧ (v5 + (1 : Int32)).toInt ≤ 14 ∧ 14 - (v5 + (1 : Int32)).toInt < (n : Int) by omega) hI
theorem zX1_partAfter (x1 : Int32) (x2 : Int32) (m : sm_S) (hp : 0 ≤ x1.toInt ∧ x1.toInt ≤ 9 ∧ 0 ≤ x2.toInt ∧ x2.toInt ≤ 16383) (hI : zI m) : Sf (fun r => (0 ≤ r.toInt) ∧ (r.toInt ≤ 1023)) (fX1_partAfter x1 x2 m) := by
  have hfu := fuE
  unfold fX1_partAfter
  have kx1 : 0 ≤ (x1).toInt ∧ (x1).toInt < (10 : Int) := by omega
  refine s_ix kx1 ?_
  have kc2 : 0 ≤ (m.1 36 (x1).toNatClampNeg).toInt ∧ (m.1 36 (x1).toNatClampNeg).toInt ≤ 870 := hI.1 36 (x1).toNatClampNeg
  have kc3 := L0
  exact zX1_partAfter_11 sm_fu x2 (m.1 36 (x1).toNatClampNeg) (0 : Int32) m (show 0 ≤ x2.toInt ∧ x2.toInt ≤ 16383 ∧ 0 ≤ (m.1 36 (x1).toNatClampNeg).toInt ∧ (m.1 36 (x1).toNatClampNeg).toInt ≤ 1023 ∧ 0 ≤ (0 : Int32).toInt ∧ (0 : Int32).toInt ≤ 14 ∧ 14 - (0 : Int32).toInt < (sm_fu : Int) by omega) hI
theorem zX1_placeOf (x1 : Int32) (x2 : Int32) (m : sm_S) (hp : 0 ≤ x1.toInt ∧ x1.toInt ≤ 16383 ∧ 0 ≤ x2.toInt ∧ x2.toInt ≤ 9) (hI : zI m) : Sf (fun r => True) (fX1_placeOf x1 x2 m) := by
  have hfu := fuE
  unfold fX1_placeOf
  have kx1 : 0 ≤ (x2).toInt ∧ (x2).toInt < (10 : Int) := by omega
  refine s_ix kx1 ?_
  have kc2 : 0 ≤ (m.1 34 2).toInt ∧ (m.1 34 2).toInt ≤ 15 := hI.1 34 2
  exact s_ret trivial
theorem zX3_at_i2 (x1 : Int32) (m : sm_S) (hI : zI m) : Sf (fun r => (0 ≤ r.toInt) ∧ (r.toInt ≤ 65535)) (fX3_at_i2 x1 m) := by
  have hfu := fuE
  unfold fX3_at_i2
  have kc1 := L0
  refine s_lt (fun kh2 => ?_) (fun kh2 => ?_)
  · have kc3 := L65535
    exact s_ret (show (0 ≤ (65535 : Int32).toInt) ∧ ((65535 : Int32).toInt ≤ 65535) by omega)
  · have kc4 : 0 ≤ (m.1 49 0).toInt ∧ (m.1 49 0).toInt ≤ 16384 := hI.1 49 0
    refine s_lt (fun kh5 => ?_) (fun kh5 => ?_)
    · have kc6 := L2
      have kc7 := L31
      have kc8 : 0 ≤ ((2 : Int32) &&& (31 : Int32)).toInt ∧ ((2 : Int32) &&& (31 : Int32)).toInt ≤ ((31 : Int32)).toInt := a_andr (by omega)
      have kc9 : 0 ≤ ((2 : Int32) &&& (31 : Int32)).toInt ∧ ((2 : Int32) &&& (31 : Int32)).toInt ≤ ((2 : Int32)).toInt := a_andl (by omega)
      have kc10 : (x1 >>> ((2 : Int32) &&& (31 : Int32))).toInt = (x1).toInt / 4 := a_shrE 2 (by decide) (by decide) (by decide)
      have kx11 : 0 ≤ ((x1 >>> ((2 : Int32) &&& (31 : Int32)))).toInt ∧ ((x1 >>> ((2 : Int32) &&& (31 : Int32)))).toInt < (4097 : Int) := by omega
      refine s_ix kx11 ?_
      have kc12 := L65535
      have kc13 : 0 ≤ ((((m.2 50 ((x1 >>> ((2 : Int32) &&& (31 : Int32)))).toNatClampNeg) >>> ((((x1 &&& (3 : Int32)) <<< ((4 : Int32) &&& (31 : Int32)))).toInt64 &&& (63 : Int64)))).toInt32 &&& (65535 : Int32)).toInt ∧ ((((m.2 50 ((x1 >>> ((2 : Int32) &&& (31 : Int32)))).toNatClampNeg) >>> ((((x1 &&& (3 : Int32)) <<< ((4 : Int32) &&& (31 : Int32)))).toInt64 &&& (63 : Int64)))).toInt32 &&& (65535 : Int32)).toInt ≤ ((65535 : Int32)).toInt := a_andr (by omega)
      exact s_ret (show (0 ≤ ((((m.2 50 ((x1 >>> ((2 : Int32) &&& (31 : Int32)))).toNatClampNeg) >>> ((((x1 &&& (3 : Int32)) <<< ((4 : Int32) &&& (31 : Int32)))).toInt64 &&& (63 : Int64)))).toInt32 &&& (65535 : Int32)).toInt) ∧ (((((m.2 50 ((x1 >>> ((2 : Int32) &&& (31 : Int32)))).toNatClampNeg) >>> ((((x1 &&& (3 : Int32)) <<< ((4 : Int32) &&& (31 : Int32)))).toInt64 &&& (63 : Int64)))).toInt32 &&& (65535 : Int32)).toInt ≤ 65535) by omega)
    · have kc14 := L65535
      exact s_ret (show (0 ≤ (65535 : Int32).toInt) ∧ ((65535 : Int32).toInt ≤ 65535) by omega)
theorem zX1_minutesBy (x1 : Int32) (x2 : Int32) (x3 : Int32) (x4 : Int32) (m : sm_S) (hp : 0 ≤ x1.toInt ∧ x1.toInt ≤ 16383 ∧ 0 ≤ x2.toInt ∧ x2.toInt ≤ 9 ∧ 0 ≤ x3.toInt ∧ x3.toInt ≤ 13 ∧ 0 ≤ x4.toInt ∧ x4.toInt ≤ 9) (hI : zI m) : Sf (fun r => (r.toInt ≤ 65535)) (fX1_minutesBy x1 x2 x3 x4 m) := by
  have hfu := fuE
  unfold fX1_minutesBy
  have kx1 : 0 ≤ (x2).toInt ∧ (x2).toInt < (10 : Int) := by omega
  refine s_ix kx1 ?_
  have kx2 : 0 ≤ (x4).toInt ∧ (x4).toInt < (10 : Int) := by omega
  refine s_ix kx2 ?_
  have kc3 := L65535
  refine s_lt (fun kh4 => ?_) (fun kh4 => ?_)
  · have kx5 : 0 ≤ (x3).toInt ∧ (x3).toInt < (14 : Int) := by omega
    refine s_ix kx5 ?_
    have kc6 : 0 ≤ (m.1 35 (x3).toNatClampNeg).toInt ∧ (m.1 35 (x3).toNatClampNeg).toInt ≤ 13 := hI.1 35 (x3).toNatClampNeg
    refine s_bd (zX2_otherEnd (m.1 35 (x3).toNatClampNeg) x4 m (show 0 ≤ (m.1 35 (x3).toNatClampNeg).toInt ∧ (m.1 35 (x3).toNatClampNeg).toInt ≤ 13 ∧ 0 ≤ x4.toInt ∧ x4.toInt ≤ 15 by omega) hI) (fun r5 kr7 => ?_)
    replace kr7 : (0 ≤ r5.toInt) ∧ (r5.toInt ≤ 9) := kr7
    have kc8 := L1
    have kc9 := L31
    have kc10 : 0 ≤ (x3 &&& (31 : Int32)).toInt ∧ (x3 &&& (31 : Int32)).toInt ≤ ((31 : Int32)).toInt := a_andr (by omega)
    have kc11 : 0 ≤ (x3 &&& (31 : Int32)).toInt ∧ (x3 &&& (31 : Int32)).toInt ≤ (x3).toInt := a_andl (by omega)
    have kc12 : 1 ≤ ((1 : Int32) <<< (x3 &&& (31 : Int32))).toInt ∧ ((1 : Int32) <<< (x3 &&& (31 : Int32))).toInt ≤ 8192 := a_shl 13 (by decide) (by decide) (by omega) (by omega)
    have kc13 : 0 ≤ (x1 ||| ((1 : Int32) <<< (x3 &&& (31 : Int32)))).toInt ∧ (x1 ||| ((1 : Int32) <<< (x3 &&& (31 : Int32)))).toInt < 16384 := a_or 14 (by decide) (by decide) (by omega) (by omega) (by omega) (by omega)
    refine s_bd (zX1_placeOf (x1 ||| ((1 : Int32) <<< (x3 &&& (31 : Int32)))) r5 m (show 0 ≤ (x1 ||| ((1 : Int32) <<< (x3 &&& (31 : Int32)))).toInt ∧ (x1 ||| ((1 : Int32) <<< (x3 &&& (31 : Int32)))).toInt ≤ 16383 ∧ 0 ≤ r5.toInt ∧ r5.toInt ≤ 9 by omega) hI) (fun r7 kr14 => ?_)
    refine s_bd (zX3_at_i2 r7 m hI) (fun r9 kr15 => ?_)
    replace kr15 : (0 ≤ r9.toInt) ∧ (r9.toInt ≤ 65535) := kr15
    refine s_ix kx1 ?_
    refine s_ix kx2 ?_
    refine s_bd (zX2_minutesFrom (m.1 35 (x3).toNatClampNeg) x4 m (show 0 ≤ (m.1 35 (x3).toNatClampNeg).toInt ∧ (m.1 35 (x3).toNatClampNeg).toInt ≤ 13 ∧ 0 ≤ x4.toInt ∧ x4.toInt ≤ 15 by omega) hI) (fun r13 kr16 => ?_)
    replace kr16 : (0 ≤ r13.toInt) ∧ (r13.toInt ≤ 29) := kr16
    have kc17 := rg (m.1 (39 + (x2).toNatClampNeg) (x4).toNatClampNeg)
    have kc18 : ((m.1 (39 + (x2).toNatClampNeg) (x4).toNatClampNeg) + r13).toInt = ((m.1 (39 + (x2).toNatClampNeg) (x4).toNatClampNeg)).toInt + (r13).toInt := a_add (by omega) (by omega)
    have kc19 := rg ((m.1 (39 + (x2).toNatClampNeg) (x4).toNatClampNeg) + r13)
    have kc20 : (((m.1 (39 + (x2).toNatClampNeg) (x4).toNatClampNeg) + r13) + r9).toInt = (((m.1 (39 + (x2).toNatClampNeg) (x4).toNatClampNeg) + r13)).toInt + (r9).toInt := a_add (by omega) (by omega)
    have kc21 : (((((m.1 (39 + (x2).toNatClampNeg) (x4).toNatClampNeg) + r13) + r9)).toInt < ((65535 : Int32)).toInt ∧ (if (((m.1 (39 + (x2).toNatClampNeg) (x4).toNatClampNeg) + r13) + r9) < (65535 : Int32) then (((m.1 (39 + (x2).toNatClampNeg) (x4).toNatClampNeg) + r13) + r9) else (65535 : Int32)).toInt = ((((m.1 (39 + (x2).toNatClampNeg) (x4).toNatClampNeg) + r13) + r9)).toInt) ∨ (((65535 : Int32)).toInt ≤ ((((m.1 (39 + (x2).toNatClampNeg) (x4).toNatClampNeg) + r13) + r9)).toInt ∧ (if (((m.1 (39 + (x2).toNatClampNeg) (x4).toNatClampNeg) + r13) + r9) < (65535 : Int32) then (((m.1 (39 + (x2).toNatClampNeg) (x4).toNatClampNeg) + r13) + r9) else (65535 : Int32)).toInt = ((65535 : Int32)).toInt) := a_ilt
    exact s_ret (show ((if (((m.1 (39 + (x2).toNatClampNeg) (x4).toNatClampNeg) + r13) + r9) < (65535 : Int32) then (((m.1 (39 + (x2).toNatClampNeg) (x4).toNatClampNeg) + r13) + r9) else (65535 : Int32)).toInt ≤ 65535) by omega)
  · exact s_ret (show ((65535 : Int32).toInt ≤ 65535) by omega)
theorem zX1_bestOn_7 : ∀ (n : Nat) (v2 : Int32) (v3 : Int32) (v4 : Int32) (v5 : Int32) (m : sm_S), (0 ≤ v2.toInt ∧ v2.toInt ≤ 16383 ∧ 0 ≤ v3.toInt ∧ v3.toInt ≤ 9 ∧ v4.toInt ≤ 65535 ∧ 0 ≤ v5.toInt ∧ v5.toInt ≤ 14 ∧ 14 - v5.toInt < (n : Int)) → zI m → Sf (fun r => (r.toInt ≤ 65535)) (fX1_bestOn_7 n v2 v3 v4 v5 m) := by
  intro n
  induction n with
  | zero =>
    intro v2 v3 v4 v5 m hp hI
    have krgv4 := rg v4
    exfalso
    omega
  | succ n ih =>
    intro v2 v3 v4 v5 m hp hI
    have hnn : ((n + 1 : Nat) : Int) = (n : Int) + 1 := by omega
    have hfu := fuE
    have krgv4 := rg v4
    unfold fX1_bestOn_7
    have kc1 : 0 ≤ (m.1 34 1).toInt ∧ (m.1 34 1).toInt ≤ 14 := hI.1 34 1
    refine s_le (fun kh2 => ?_) (fun kh2 => ?_)
    · exact s_ret (show (v4.toInt ≤ 65535) by omega)
    · have kc3 := L31
      have kc4 : 0 ≤ (v5 &&& (31 : Int32)).toInt ∧ (v5 &&& (31 : Int32)).toInt ≤ ((31 : Int32)).toInt := a_andr (by omega)
      have kc5 : 0 ≤ (v5 &&& (31 : Int32)).toInt ∧ (v5 &&& (31 : Int32)).toInt ≤ (v5).toInt := a_andl (by omega)
      have kc6 : 0 ≤ (v2 >>> (v5 &&& (31 : Int32))).toInt ∧ (v2 >>> (v5 &&& (31 : Int32))).toInt ≤ (v2).toInt := a_shr (by omega)
      have kc7 := L1
      have kc8 : 0 ≤ ((v2 >>> (v5 &&& (31 : Int32))) &&& (1 : Int32)).toInt ∧ ((v2 >>> (v5 &&& (31 : Int32))) &&& (1 : Int32)).toInt ≤ ((1 : Int32)).toInt := a_andr (by omega)
      have kc9 : 0 ≤ ((v2 >>> (v5 &&& (31 : Int32))) &&& (1 : Int32)).toInt ∧ ((v2 >>> (v5 &&& (31 : Int32))) &&& (1 : Int32)).toInt ≤ ((v2 >>> (v5 &&& (31 : Int32)))).toInt := a_andl (by omega)
      have kc10 := L0
      refine s_eq (fun kh11 => ?_) (fun kh11 => ?_)
      · have kx12 : 0 ≤ (v5).toInt ∧ (v5).toInt < (14 : Int) := by omega
        refine s_ix kx12 ?_
        have kc13 : 0 ≤ (m.1 35 (v5).toNatClampNeg).toInt ∧ (m.1 35 (v5).toNatClampNeg).toInt ≤ 13 := hI.1 35 (v5).toNatClampNeg
        have kx14 : 0 ≤ ((m.1 35 (v5).toNatClampNeg)).toInt ∧ ((m.1 35 (v5).toNatClampNeg)).toInt < (14 : Int) := by omega
        refine s_ix kx14 ?_
        have kc15 : 0 ≤ (m.1 6 ((m.1 35 (v5).toNatClampNeg)).toNatClampNeg).toInt ∧ (m.1 6 ((m.1 35 (v5).toNatClampNeg)).toNatClampNeg).toInt ≤ 9 := hI.1 6 ((m.1 35 (v5).toNatClampNeg)).toNatClampNeg
        refine s_bd (zX1_minutesBy v2 v3 v5 (m.1 6 ((m.1 35 (v5).toNatClampNeg)).toNatClampNeg) m (show 0 ≤ v2.toInt ∧ v2.toInt ≤ 16383 ∧ 0 ≤ v3.toInt ∧ v3.toInt ≤ 9 ∧ 0 ≤ v5.toInt ∧ v5.toInt ≤ 13 ∧ 0 ≤ (m.1 6 ((m.1 35 (v5).toNatClampNeg)).toNatClampNeg).toInt ∧ (m.1 6 ((m.1 35 (v5).toNatClampNeg)).toNatClampNeg).toInt ≤ 9 by omega) hI) (fun r4 kr16 => ?_)
        have kc17 := rg r4
        replace kr16 : (r4.toInt ≤ 65535) := kr16
        refine s_ix kx14 ?_
        have kc18 : 0 ≤ (m.1 7 ((m.1 35 (v5).toNatClampNeg)).toNatClampNeg).toInt ∧ (m.1 7 ((m.1 35 (v5).toNatClampNeg)).toNatClampNeg).toInt ≤ 9 := hI.1 7 ((m.1 35 (v5).toNatClampNeg)).toNatClampNeg
        refine s_bd (zX1_minutesBy v2 v3 v5 (m.1 7 ((m.1 35 (v5).toNatClampNeg)).toNatClampNeg) m (show 0 ≤ v2.toInt ∧ v2.toInt ≤ 16383 ∧ 0 ≤ v3.toInt ∧ v3.toInt ≤ 9 ∧ 0 ≤ v5.toInt ∧ v5.toInt ≤ 13 ∧ 0 ≤ (m.1 7 ((m.1 35 (v5).toNatClampNeg)).toNatClampNeg).toInt ∧ (m.1 7 ((m.1 35 (v5).toNatClampNeg)).toNatClampNeg).toInt ≤ 9 by omega) hI) (fun r7 kr19 => ?_)
        have kc20 := rg r7
        replace kr19 : (r7.toInt ≤ 65535) := kr19
        have kc21 : ((r4).toInt < (v4).toInt ∧ (if r4 < v4 then r4 else v4).toInt = (r4).toInt) ∨ ((v4).toInt ≤ (r4).toInt ∧ (if r4 < v4 then r4 else v4).toInt = (v4).toInt) := a_ilt
        have kc22 : ((r7).toInt < ((if r4 < v4 then r4 else v4)).toInt ∧ (if r7 < (if r4 < v4 then r4 else v4) then r7 else (if r4 < v4 then r4 else v4)).toInt = (r7).toInt) ∨ (((if r4 < v4 then r4 else v4)).toInt ≤ (r7).toInt ∧ (if r7 < (if r4 < v4 then r4 else v4) then r7 else (if r4 < v4 then r4 else v4)).toInt = ((if r4 < v4 then r4 else v4)).toInt) := a_ilt
        have kc23 : (v5 + (1 : Int32)).toInt = (v5).toInt + 1 := a_addl L1 (by omega) (by omega)
        exact ih v2 v3 (if r7 < (if r4 < v4 then r4 else v4) then r7 else (if r4 < v4 then r4 else v4)) (v5 + (1 : Int32)) m (show 0 ≤ v2.toInt ∧ v2.toInt ≤ 16383 ∧ 0 ≤ v3.toInt ∧ v3.toInt ≤ 9 ∧ (if r7 < (if r4 < v4 then r4 else v4) then r7 else (if r4 < v4 then r4 else v4)).toInt ≤ 65535 ∧ 0 ≤ (v5 + (1 : Int32)).toInt ∧ (v5 + (1 : Int32)).toInt ≤ 14 ∧ 14 - (v5 + (1 : Int32)).toInt < (n : Int) by omega) hI
      · have kc24 : (v5 + (1 : Int32)).toInt = (v5).toInt + 1 := a_addl L1 (by omega) (by omega)
        exact ih v2 v3 v4 (v5 + (1 : Int32)) m (show 0 ≤ v2.toInt ∧ v2.toInt ≤ 16383 ∧ 0 ≤ v3.toInt ∧ v3.toInt ≤ 9 ∧ v4.toInt ≤ 65535 ∧ 0 ≤ (v5 + (1 : Int32)).toInt ∧ (v5 + (1 : Int32)).toInt ≤ 14 ∧ 14 - (v5 + (1 : Int32)).toInt < (n : Int) by omega) hI
theorem zX1_bestOn (x1 : Int32) (x2 : Int32) (m : sm_S) (hp : 0 ≤ x1.toInt ∧ x1.toInt ≤ 16383 ∧ 0 ≤ x2.toInt ∧ x2.toInt ≤ 9) (hI : zI m) : Sf (fun r => (r.toInt ≤ 65535)) (fX1_bestOn x1 x2 m) := by
  have hfu := fuE
  unfold fX1_bestOn
  have kc1 := L65535
  have kc2 := L0
  exact zX1_bestOn_7 sm_fu x1 x2 (65535 : Int32) (0 : Int32) m (show 0 ≤ x1.toInt ∧ x1.toInt ≤ 16383 ∧ 0 ≤ x2.toInt ∧ x2.toInt ≤ 9 ∧ (65535 : Int32).toInt ≤ 65535 ∧ 0 ≤ (0 : Int32).toInt ∧ (0 : Int32).toInt ≤ 14 ∧ 14 - (0 : Int32).toInt < (sm_fu : Int) by omega) hI
theorem zX3_put_i2 (x1 : Int32) (x2 : Int32) (m : sm_S) (hp : x2.toInt ≤ 65535) (hI : zI m) : Sf (fun r => (True) ∧ zI r ∧ Fr wX3_put_i2 m r) (fX3_put_i2 x1 x2 m) := by
  have hfu := fuE
  have krgx2 := rg x2
  unfold fX3_put_i2
  have kc1 := L0
  refine s_lt (fun kh2 => ?_) (fun kh2 => ?_)
  · exact s_ret ⟨trivial, hI, Fr.refl⟩
  · have kc3 : 0 ≤ (m.1 49 0).toInt ∧ (m.1 49 0).toInt ≤ 16384 := hI.1 49 0
    refine s_le (fun kh4 => ?_) (fun kh4 => ?_)
    · exact s_ret ⟨trivial, hI, Fr.refl⟩
    · have kc5 := L2
      have kc6 := L31
      have kc7 : 0 ≤ ((2 : Int32) &&& (31 : Int32)).toInt ∧ ((2 : Int32) &&& (31 : Int32)).toInt ≤ ((31 : Int32)).toInt := a_andr (by omega)
      have kc8 : 0 ≤ ((2 : Int32) &&& (31 : Int32)).toInt ∧ ((2 : Int32) &&& (31 : Int32)).toInt ≤ ((2 : Int32)).toInt := a_andl (by omega)
      have kc9 : (x1 >>> ((2 : Int32) &&& (31 : Int32))).toInt = (x1).toInt / 4 := a_shrE 2 (by decide) (by decide) (by decide)
      have kx10 : 0 ≤ ((x1 >>> ((2 : Int32) &&& (31 : Int32)))).toInt ∧ ((x1 >>> ((2 : Int32) &&& (31 : Int32)))).toInt < (4097 : Int) := by omega
      refine s_ix kx10 ?_
      refine s_ix kx10 ?_
      have ki11 : zI (sm_w2 m 50 ((x1 >>> ((2 : Int32) &&& (31 : Int32)))).toNatClampNeg (((m.2 50 ((x1 >>> ((2 : Int32) &&& (31 : Int32)))).toNatClampNeg) &&& (((65535 : Int64) <<< ((((x1 &&& (3 : Int32)) <<< ((4 : Int32) &&& (31 : Int32)))).toInt64 &&& (63 : Int64))) ^^^ (-1 : Int64))) ||| (((if (65535 : Int32) < x2 then (65535 : Int32) else x2)).toInt64 <<< ((((x1 &&& (3 : Int32)) <<< ((4 : Int32) &&& (31 : Int32)))).toInt64 &&& (63 : Int64))))) := hI
      have kf12 : Fr wX3_put_i2 m (sm_w2 m 50 ((x1 >>> ((2 : Int32) &&& (31 : Int32)))).toNatClampNeg (((m.2 50 ((x1 >>> ((2 : Int32) &&& (31 : Int32)))).toNatClampNeg) &&& (((65535 : Int64) <<< ((((x1 &&& (3 : Int32)) <<< ((4 : Int32) &&& (31 : Int32)))).toInt64 &&& (63 : Int64))) ^^^ (-1 : Int64))) ||| (((if (65535 : Int32) < x2 then (65535 : Int32) else x2)).toInt64 <<< ((((x1 &&& (3 : Int32)) <<< ((4 : Int32) &&& (31 : Int32)))).toInt64 &&& (63 : Int64))))) := Fr.refl
      exact s_ret ⟨trivial, ki11, kf12⟩
theorem zX1_fewestMinutes_46 (m0 : sm_S) (k28 : Int32 → Int32 → Int32 → sm_S → Option (Int32 × sm_S)) (Nk28 : Nat) (hk28 : ∀ (v2 : Int32) (v3 : Int32) (v4 : Int32) (m : sm_S), (0 ≤ v2.toInt ∧ v2.toInt ≤ 9 ∧ 0 ≤ v3.toInt ∧ v3.toInt ≤ 16383 ∧ (-1 : Int) ≤ v4.toInt ∧ v4.toInt ≤ 16383 ∧ v4.toInt + 1 < (Nk28 : Int)) → zI m → Fr wX1_fewestMinutes m0 m → Sf (fun r => (((-1 : Int) ≤ r.1.toInt) ∧ (r.1.toInt ≤ 65534)) ∧ zI r.2 ∧ Fr wX1_fewestMinutes m0 r.2) (k28 v2 v3 v4 m)) : ∀ (n : Nat) (v2 : Int32) (v3 : Int32) (v4 : Int32) (v5 : Int32) (v6 : Int32) (m : sm_S), (0 ≤ v2.toInt ∧ v2.toInt ≤ 9 ∧ 0 ≤ v3.toInt ∧ v3.toInt ≤ 16383 ∧ 0 ≤ v4.toInt ∧ v4.toInt ≤ 16383 ∧ 0 ≤ v5.toInt ∧ v5.toInt ≤ 1023 ∧ 0 ≤ v6.toInt ∧ v6.toInt ≤ 10 ∧ 10 - v6.toInt < (n : Int) ∧ v4.toInt + 1 ≤ (Nk28 : Int)) → zI m → Fr wX1_fewestMinutes m0 m → Sf (fun r => (((-1 : Int) ≤ r.1.toInt) ∧ (r.1.toInt ≤ 65534)) ∧ zI r.2 ∧ Fr wX1_fewestMinutes m0 r.2) (fX1_fewestMinutes_46 k28 n v2 v3 v4 v5 v6 m) := by
  intro n
  induction n with
  | zero =>
    intro v2 v3 v4 v5 v6 m hp hI hF
    exfalso
    omega
  | succ n ih =>
    intro v2 v3 v4 v5 v6 m hp hI hF
    have hnn : ((n + 1 : Nat) : Int) = (n : Int) + 1 := by omega
    have hfu := fuE
    unfold fX1_fewestMinutes_46
    simp only [a_m1, a_m8]
    have kc1 : 0 ≤ (m.1 3 0).toInt ∧ (m.1 3 0).toInt ≤ 10 := hI.1 3 0
    refine s_le (fun kh2 => ?_) (fun kh2 => ?_)
    · have kc3 : (v4 - (1 : Int32)).toInt = (v4).toInt - 1 := a_subl L1 (by omega) (by omega)
      exact hk28 v2 v3 (v4 - (1 : Int32)) m (show 0 ≤ v2.toInt ∧ v2.toInt ≤ 9 ∧ 0 ≤ v3.toInt ∧ v3.toInt ≤ 16383 ∧ (-1 : Int) ≤ (v4 - (1 : Int32)).toInt ∧ (v4 - (1 : Int32)).toInt ≤ 16383 ∧ (v4 - (1 : Int32)).toInt + 1 < (Nk28 : Int) from ⟨by omega, by omega, by omega, by omega, by omega, by omega, by omega⟩) hI hF
    · have kx4 : 0 ≤ (v6).toInt ∧ (v6).toInt < (10 : Int) := by omega
      refine s_ix kx4 ?_
      have kc5 : 0 ≤ (m.1 36 (v6).toNatClampNeg).toInt ∧ (m.1 36 (v6).toNatClampNeg).toInt ≤ 870 := hI.1 36 (v6).toNatClampNeg
      refine s_eq (fun kh6 => ?_) (fun kh6 => ?_)
      · refine s_bd (zX1_placeOf v4 v6 m (show 0 ≤ v4.toInt ∧ v4.toInt ≤ 16383 ∧ 0 ≤ v6.toInt ∧ v6.toInt ≤ 9 from ⟨by omega, by omega, by omega, by omega⟩) hI) (fun r13 kr7 => ?_)
        refine s_eq (fun kh8 => ?_) (fun kh8 => ?_)
        · have kc9 := L0
          refine s_bd (zX3_put_i2 r13 (0 : Int32) m (show (0 : Int32).toInt ≤ 65535 by omega) hI) (fun m19 kr10 => ?_)
          obtain ⟨kp11, ki12, kf13⟩ := kr10
          have kc14 : (v6 + (1 : Int32)).toInt = (v6).toInt + 1 := a_addl L1 (by omega) (by omega)
          have kf15 : Fr wX1_fewestMinutes m0 m19 := Fr.trans hF kf13 rfl
          exact ih v2 v3 v4 v5 (v6 + (1 : Int32)) m19 (show 0 ≤ v2.toInt ∧ v2.toInt ≤ 9 ∧ 0 ≤ v3.toInt ∧ v3.toInt ≤ 16383 ∧ 0 ≤ v4.toInt ∧ v4.toInt ≤ 16383 ∧ 0 ≤ v5.toInt ∧ v5.toInt ≤ 1023 ∧ 0 ≤ (v6 + (1 : Int32)).toInt ∧ (v6 + (1 : Int32)).toInt ≤ 10 ∧ 10 - (v6 + (1 : Int32)).toInt < (n : Int) ∧ v4.toInt + 1 ≤ (Nk28 : Int) from ⟨by omega, by omega, by omega, by omega, by omega, by omega, by omega, by omega, by omega, by omega, by omega, by omega⟩) ki12 kf15
        · refine s_bd (zX1_bestOn v4 v6 m (show 0 ≤ v4.toInt ∧ v4.toInt ≤ 16383 ∧ 0 ≤ v6.toInt ∧ v6.toInt ≤ 9 from ⟨by omega, by omega, by omega, by omega⟩) hI) (fun r15 kr16 => ?_)
          have kc17 := rg r15
          replace kr16 : (r15.toInt ≤ 65535) := kr16
          refine s_bd (zX3_put_i2 r13 r15 m (show r15.toInt ≤ 65535 by omega) hI) (fun m17 kr18 => ?_)
          obtain ⟨kp19, ki20, kf21⟩ := kr18
          have kc22 : (v6 + (1 : Int32)).toInt = (v6).toInt + 1 := a_addl L1 (by omega) (by omega)
          have kf23 : Fr wX1_fewestMinutes m0 m17 := Fr.trans hF kf21 rfl
          exact ih v2 v3 v4 v5 (v6 + (1 : Int32)) m17 (show 0 ≤ v2.toInt ∧ v2.toInt ≤ 9 ∧ 0 ≤ v3.toInt ∧ v3.toInt ≤ 16383 ∧ 0 ≤ v4.toInt ∧ v4.toInt ≤ 16383 ∧ 0 ≤ v5.toInt ∧ v5.toInt ≤ 1023 ∧ 0 ≤ (v6 + (1 : Int32)).toInt ∧ (v6 + (1 : Int32)).toInt ≤ 10 ∧ 10 - (v6 + (1 : Int32)).toInt < (n : Int) ∧ v4.toInt + 1 ≤ (Nk28 : Int) from ⟨by omega, by omega, by omega, by omega, by omega, by omega, by omega, by omega, by omega, by omega, by omega, by omega⟩) ki20 kf23
      · have kc24 : (v6 + (1 : Int32)).toInt = (v6).toInt + 1 := a_addl L1 (by omega) (by omega)
        exact ih v2 v3 v4 v5 (v6 + (1 : Int32)) m (show 0 ≤ v2.toInt ∧ v2.toInt ≤ 9 ∧ 0 ≤ v3.toInt ∧ v3.toInt ≤ 16383 ∧ 0 ≤ v4.toInt ∧ v4.toInt ≤ 16383 ∧ 0 ≤ v5.toInt ∧ v5.toInt ≤ 1023 ∧ 0 ≤ (v6 + (1 : Int32)).toInt ∧ (v6 + (1 : Int32)).toInt ≤ 10 ∧ 10 - (v6 + (1 : Int32)).toInt < (n : Int) ∧ v4.toInt + 1 ≤ (Nk28 : Int) from ⟨by omega, by omega, by omega, by omega, by omega, by omega, by omega, by omega, by omega, by omega, by omega, by omega⟩) hI hF
