theorem zX12_reach (x1 : Int32) (m : sm_S) (hI : zI m) : Sf (fun r => ((0 ≤ r.1.toInt) ∧ (r.1.toInt ≤ 1023)) ∧ zI r.2 ∧ Fr wX12_reach m r.2) (fX12_reach x1 m) := by
  have hfu := fuE
  unfold fX12_reach
  have kc1 : 0 ≤ (m.1 72 3).toInt ∧ (m.1 72 3).toInt ≤ 10 := hI.1 72 3
  have kc2 := L0
  refine s_eq (fun kh3 => ?_) (fun kh3 => ?_)
  · have ki4 : zI (sm_w1 m 72 0 (0 : Int32)) := zI.w hI rfl (show 0 ≤ ((0 : Int32)).toInt ∧ ((0 : Int32)).toInt ≤ 1 by omega)
    refine s_bd (zX12_refuse (sm_w1 m 72 0 (0 : Int32)) ki4) (fun r2 kr5 => ?_)
    obtain ⟨kp6, ki7, kf8⟩ := kr5
    replace kp6 : (0 ≤ r2.1.toInt) ∧ (r2.1.toInt ≤ 0) := kp6
    have kf9 : Fr wX12_reach m (sm_w1 m 72 0 (0 : Int32)) := Fr.w Fr.refl rfl
    have kf10 : Fr wX12_reach m r2.2 := Fr.trans kf9 kf8 rfl
    exact s_ret ⟨(show (0 ≤ r2.1.toInt) ∧ (r2.1.toInt ≤ 1023) by omega), ki7, kf10⟩
  · have kc11 : (x1).toInt64.toInt = (x1).toInt := Int32.toInt_toInt64 _
    have kc12 := LLn1
    have kc13 : 0 ≤ (m.1 72 6).toInt ∧ (m.1 72 6).toInt ≤ 14 := hI.1 72 6
    have kc14 : 0 ≤ (m.1 72 25).toInt ∧ (m.1 72 25).toInt ≤ 14 := hI.1 72 25
    have kc15 := zI.le hI
    have kc16 : ((m.1 72 6) - (1 : Int32)).toInt = ((m.1 72 6)).toInt - 1 := a_subl L1 (by omega) (by omega)
    have kc17 : (((m.1 72 6) - (1 : Int32))).toInt64.toInt = (((m.1 72 6) - (1 : Int32))).toInt := Int32.toInt_toInt64 _
    have ki18 : zI (sm_w1 m 72 0 (0 : Int32)) := zI.w hI rfl (show 0 ≤ ((0 : Int32)).toInt ∧ ((0 : Int32)).toInt ≤ 1 by omega)
    refine s_bd (zX12_in (x1).toInt64 (-1 : Int64) (((m.1 72 6) - (1 : Int32))).toInt64 (sm_w1 m 72 0 (0 : Int32)) (show (-1 : Int) ≤ (-1 : Int64).toInt ∧ (-1 : Int64).toInt ≤ 48 ∧ (-1 : Int) ≤ (((m.1 72 6) - (1 : Int32))).toInt64.toInt ∧ (((m.1 72 6) - (1 : Int32))).toInt64.toInt ≤ 9999 by omega) ki18) (fun r4 kr19 => ?_)
    replace kr19 : (0 ≤ r4.toInt) ∧ (r4.toInt ≤ 1) ∧ ((r4.toInt = 0 ∧ ((x1).toInt64.toInt < (-1 : Int64).toInt ∨ (((m.1 72 6) - (1 : Int32))).toInt64.toInt < (x1).toInt64.toInt)) ∨ (r4.toInt = 1 ∧ (-1 : Int64).toInt ≤ (x1).toInt64.toInt ∧ (x1).toInt64.toInt ≤ (((m.1 72 6) - (1 : Int32))).toInt64.toInt)) := kr19
    refine s_eq (fun kh20 => ?_) (fun kh20 => ?_)
    · refine s_bd (zX12_refuse (sm_w1 m 72 0 (0 : Int32)) ki18) (fun r12 kr21 => ?_)
      obtain ⟨kp22, ki23, kf24⟩ := kr21
      replace kp22 : (0 ≤ r12.1.toInt) ∧ (r12.1.toInt ≤ 0) := kp22
      have kf25 : Fr wX12_reach m (sm_w1 m 72 0 (0 : Int32)) := Fr.w Fr.refl rfl
      have kf26 : Fr wX12_reach m r12.2 := Fr.trans kf25 kf24 rfl
      exact s_ret ⟨(show (0 ≤ r12.1.toInt) ∧ (r12.1.toInt ≤ 1023) by omega), ki23, kf26⟩
    · have kf27 : Fr wX12_reach m (sm_w1 m 72 0 (0 : Int32)) := Fr.w Fr.refl rfl
      exact zX12_reach_39 m sm_fu x1 (0 : Int32) (0 : Int32) (sm_w1 m 72 0 (0 : Int32)) (show (-1 : Int) ≤ x1.toInt ∧ x1.toInt ≤ 13 ∧ 0 ≤ (0 : Int32).toInt ∧ (0 : Int32).toInt ≤ 16383 ∧ 0 ≤ (0 : Int32).toInt ∧ (0 : Int32).toInt ≤ 14 ∧ 14 - (0 : Int32).toInt < (sm_fu : Int) by omega) ki18 kf27
theorem zX12_shortens (x1 : Int32) (x2 : Int32) (x3 : Int32) (m : sm_S) (hp : 0 ≤ x1.toInt ∧ x1.toInt ≤ 9 ∧ 0 ≤ x2.toInt ∧ x2.toInt ≤ 9 ∧ 0 ≤ x3.toInt ∧ x3.toInt ≤ 2000000) (hI : zI m) : Sf (fun r => (True) ∧ zI r ∧ Fr wX12_shortens m r) (fX12_shortens x1 x2 x3 m) := by
  have hfu := fuE
  unfold fX12_shortens
  have kc1 := L10
  have kc2 : ((10 : Int32) * x1).toInt = 10 * (x1).toInt := a_mul L10 rfl (by omega) (by omega)
  have kc3 : (((10 : Int32) * x1) + x2).toInt = (((10 : Int32) * x1)).toInt + (x2).toInt := a_add (by omega) (by omega)
  have kx4 : 0 ≤ ((((10 : Int32) * x1) + x2)).toInt ∧ ((((10 : Int32) * x1) + x2)).toInt < (100 : Int) := by omega
  refine s_ix kx4 ?_
  refine s_ix kx4 ?_
  have kc5 : 0 ≤ (m.1 99 ((((10 : Int32) * x1) + x2)).toNatClampNeg).toInt ∧ (m.1 99 ((((10 : Int32) * x1) + x2)).toNatClampNeg).toInt ≤ 1000000 := hI.1 99 ((((10 : Int32) * x1) + x2)).toNatClampNeg
  have kc6 : ((x3).toInt < ((m.1 99 ((((10 : Int32) * x1) + x2)).toNatClampNeg)).toInt ∧ (if x3 < (m.1 99 ((((10 : Int32) * x1) + x2)).toNatClampNeg) then x3 else (m.1 99 ((((10 : Int32) * x1) + x2)).toNatClampNeg)).toInt = (x3).toInt) ∨ (((m.1 99 ((((10 : Int32) * x1) + x2)).toNatClampNeg)).toInt ≤ (x3).toInt ∧ (if x3 < (m.1 99 ((((10 : Int32) * x1) + x2)).toNatClampNeg) then x3 else (m.1 99 ((((10 : Int32) * x1) + x2)).toNatClampNeg)).toInt = ((m.1 99 ((((10 : Int32) * x1) + x2)).toNatClampNeg)).toInt) := a_ilt
  have ki7 : zI (sm_w1 m 99 ((((10 : Int32) * x1) + x2)).toNatClampNeg (if x3 < (m.1 99 ((((10 : Int32) * x1) + x2)).toNatClampNeg) then x3 else (m.1 99 ((((10 : Int32) * x1) + x2)).toNatClampNeg))) := zI.w hI rfl (show 0 ≤ ((if x3 < (m.1 99 ((((10 : Int32) * x1) + x2)).toNatClampNeg) then x3 else (m.1 99 ((((10 : Int32) * x1) + x2)).toNatClampNeg))).toInt ∧ ((if x3 < (m.1 99 ((((10 : Int32) * x1) + x2)).toNatClampNeg) then x3 else (m.1 99 ((((10 : Int32) * x1) + x2)).toNatClampNeg))).toInt ≤ 1000000 by omega)
  have kf8 : Fr wX12_shortens m (sm_w1 m 99 ((((10 : Int32) * x1) + x2)).toNatClampNeg (if x3 < (m.1 99 ((((10 : Int32) * x1) + x2)).toNatClampNeg) then x3 else (m.1 99 ((((10 : Int32) * x1) + x2)).toNatClampNeg))) := Fr.w Fr.refl rfl
  exact s_ret ⟨trivial, ki7, kf8⟩
theorem zX12_measures_158 (m0 : sm_S) (k138 : Int32 → sm_S → Option (sm_S)) (Nk138 : Nat) (hk138 : ∀ (v1 : Int32) (m : sm_S), (0 ≤ v1.toInt ∧ v1.toInt ≤ 10 ∧ 10 - v1.toInt < (Nk138 : Int)) → zI m → Fr wX12_measures m0 m → Sf (fun r => (True) ∧ zI r ∧ Fr wX12_measures m0 r) (k138 v1 m)) (k148 : Int32 → Int32 → sm_S → Option (sm_S)) (Nk148 : Nat) (hk148 : ∀ (v1 : Int32) (v2 : Int32) (m : sm_S), (0 ≤ v1.toInt ∧ v1.toInt ≤ 9 ∧ 0 ≤ v2.toInt ∧ v2.toInt ≤ 10 ∧ 10 - v2.toInt < (Nk148 : Int) ∧ 10 - v1.toInt ≤ (Nk138 : Int)) → zI m → Fr wX12_measures m0 m → Sf (fun r => (True) ∧ zI r ∧ Fr wX12_measures m0 r) (k148 v1 v2 m)) : ∀ (n : Nat) (v1 : Int32) (v2 : Int32) (v3 : Int32) (m : sm_S), (0 ≤ v1.toInt ∧ v1.toInt ≤ 9 ∧ 0 ≤ v2.toInt ∧ v2.toInt ≤ 9 ∧ 0 ≤ v3.toInt ∧ v3.toInt ≤ 10 ∧ 10 - v3.toInt < (n : Int) ∧ 10 - v2.toInt ≤ (Nk148 : Int) ∧ 10 - v1.toInt ≤ (Nk138 : Int)) → zI m → Fr wX12_measures m0 m → Sf (fun r => (True) ∧ zI r ∧ Fr wX12_measures m0 r) (fX12_measures_158 k148 k138 n v1 v2 v3 m) := by
  intro n
  induction n with
  | zero =>
    intro v1 v2 v3 m hp hI hF
    exfalso
    omega
  | succ n ih =>
    intro v1 v2 v3 m hp hI hF
    have hnn : ((n + 1 : Nat) : Int) = (n : Int) + 1 := by omega
    have hfu := fuE
    unfold fX12_measures_158
    have kc1 : 0 ≤ (m.1 72 3).toInt ∧ (m.1 72 3).toInt ≤ 10 := hI.1 72 3
    refine s_le (fun kh2 => ?_) (fun kh2 => ?_)
    · have kc3 : (v2 + (1 : Int32)).toInt = (v2).toInt + 1 := a_addl L1 (by omega) (by omega)
      exact hk148 v1 (v2 + (1 : Int32)) m (show 0 ≤ v1.toInt ∧ v1.toInt ≤ 9 ∧ 0 ≤ (v2 + (1 : Int32)).toInt ∧ (v2 + (1 : Int32)).toInt ≤ 10 ∧ 10 - (v2 + (1 : Int32)).toInt < (Nk148 : Int) ∧ 10 - v1.toInt ≤ (Nk138 : Int) by omega) hI hF
    · have kc4 := L10
      have kc5 : ((10 : Int32) * v2).toInt = 10 * (v2).toInt := a_mul L10 rfl (by omega) (by omega)
      have kc6 : (((10 : Int32) * v2) + v1).toInt = (((10 : Int32) * v2)).toInt + (v1).toInt := a_add (by omega) (by omega)
      have kx7 : 0 ≤ ((((10 : Int32) * v2) + v1)).toInt ∧ ((((10 : Int32) * v2) + v1)).toInt < (100 : Int) := by omega
      refine s_ix kx7 ?_
      have kc8 : ((10 : Int32) * v1).toInt = 10 * (v1).toInt := a_mul L10 rfl (by omega) (by omega)
      have kc9 : (((10 : Int32) * v1) + v3).toInt = (((10 : Int32) * v1)).toInt + (v3).toInt := a_add (by omega) (by omega)
      have kx10 : 0 ≤ ((((10 : Int32) * v1) + v3)).toInt ∧ ((((10 : Int32) * v1) + v3)).toInt < (100 : Int) := by omega
      refine s_ix kx10 ?_
      have kc11 : 0 ≤ (m.1 99 ((((10 : Int32) * v2) + v1)).toNatClampNeg).toInt ∧ (m.1 99 ((((10 : Int32) * v2) + v1)).toNatClampNeg).toInt ≤ 1000000 := hI.1 99 ((((10 : Int32) * v2) + v1)).toNatClampNeg
      have kc12 : 0 ≤ (m.1 99 ((((10 : Int32) * v1) + v3)).toNatClampNeg).toInt ∧ (m.1 99 ((((10 : Int32) * v1) + v3)).toNatClampNeg).toInt ≤ 1000000 := hI.1 99 ((((10 : Int32) * v1) + v3)).toNatClampNeg
      have kc13 : ((m.1 99 ((((10 : Int32) * v2) + v1)).toNatClampNeg) + (m.1 99 ((((10 : Int32) * v1) + v3)).toNatClampNeg)).toInt = ((m.1 99 ((((10 : Int32) * v2) + v1)).toNatClampNeg)).toInt + ((m.1 99 ((((10 : Int32) * v1) + v3)).toNatClampNeg)).toInt := a_add (by omega) (by omega)
      refine s_bd (zX12_shortens v2 v3 ((m.1 99 ((((10 : Int32) * v2) + v1)).toNatClampNeg) + (m.1 99 ((((10 : Int32) * v1) + v3)).toNatClampNeg)) m (show 0 ≤ v2.toInt ∧ v2.toInt ≤ 9 ∧ 0 ≤ v3.toInt ∧ v3.toInt ≤ 9 ∧ 0 ≤ ((m.1 99 ((((10 : Int32) * v2) + v1)).toNatClampNeg) + (m.1 99 ((((10 : Int32) * v1) + v3)).toNatClampNeg)).toInt ∧ ((m.1 99 ((((10 : Int32) * v2) + v1)).toNatClampNeg) + (m.1 99 ((((10 : Int32) * v1) + v3)).toNatClampNeg)).toInt ≤ 2000000 by omega) hI) (fun m4 kr14 => ?_)
      obtain ⟨kp15, ki16, kf17⟩ := kr14
      have kc18 : (v3 + (1 : Int32)).toInt = (v3).toInt + 1 := a_addl L1 (by omega) (by omega)
      have kf19 : Fr wX12_measures m0 m4 := Fr.trans hF kf17 rfl
      exact ih v1 v2 (v3 + (1 : Int32)) m4 (show 0 ≤ v1.toInt ∧ v1.toInt ≤ 9 ∧ 0 ≤ v2.toInt ∧ v2.toInt ≤ 9 ∧ 0 ≤ (v3 + (1 : Int32)).toInt ∧ (v3 + (1 : Int32)).toInt ≤ 10 ∧ 10 - (v3 + (1 : Int32)).toInt < (n : Int) ∧ 10 - v2.toInt ≤ (Nk148 : Int) ∧ 10 - v1.toInt ≤ (Nk138 : Int) by omega) ki16 kf19
theorem zX12_measures_148 (m0 : sm_S) (k138 : Int32 → sm_S → Option (sm_S)) (Nk138 : Nat) (hk138 : ∀ (v1 : Int32) (m : sm_S), (0 ≤ v1.toInt ∧ v1.toInt ≤ 10 ∧ 10 - v1.toInt < (Nk138 : Int)) → zI m → Fr wX12_measures m0 m → Sf (fun r => (True) ∧ zI r ∧ Fr wX12_measures m0 r) (k138 v1 m)) : ∀ (n : Nat) (v1 : Int32) (v2 : Int32) (m : sm_S), (0 ≤ v1.toInt ∧ v1.toInt ≤ 9 ∧ 0 ≤ v2.toInt ∧ v2.toInt ≤ 10 ∧ 10 - v2.toInt < (n : Int) ∧ 10 - v1.toInt ≤ (Nk138 : Int)) → zI m → Fr wX12_measures m0 m → Sf (fun r => (True) ∧ zI r ∧ Fr wX12_measures m0 r) (fX12_measures_148 k138 n v1 v2 m) := by
  intro n
  induction n with
  | zero =>
    intro v1 v2 m hp hI hF
    exfalso
    omega
  | succ n ih =>
    intro v1 v2 m hp hI hF
    have hnn : ((n + 1 : Nat) : Int) = (n : Int) + 1 := by omega
    have hfu := fuE
    unfold fX12_measures_148
    have kc1 : 0 ≤ (m.1 72 3).toInt ∧ (m.1 72 3).toInt ≤ 10 := hI.1 72 3
    refine s_le (fun kh2 => ?_) (fun kh2 => ?_)
    · have kc3 : (v1 + (1 : Int32)).toInt = (v1).toInt + 1 := a_addl L1 (by omega) (by omega)
      exact hk138 (v1 + (1 : Int32)) m (show 0 ≤ (v1 + (1 : Int32)).toInt ∧ (v1 + (1 : Int32)).toInt ≤ 10 ∧ 10 - (v1 + (1 : Int32)).toInt < (Nk138 : Int) by omega) hI hF
    · have kc4 := L0
      exact zX12_measures_158 m0 k138 Nk138 hk138 (fX12_measures_148 k138 n) n ih sm_fu v1 v2 (0 : Int32) m (show 0 ≤ v1.toInt ∧ v1.toInt ≤ 9 ∧ 0 ≤ v2.toInt ∧ v2.toInt ≤ 9 ∧ 0 ≤ (0 : Int32).toInt ∧ (0 : Int32).toInt ≤ 10 ∧ 10 - (0 : Int32).toInt < (sm_fu : Int) ∧ 10 - v2.toInt ≤ (n : Int) ∧ 10 - v1.toInt ≤ (Nk138 : Int) by omega) hI hF
theorem zX12_measures_138 (m0 : sm_S) : ∀ (n : Nat) (v1 : Int32) (m : sm_S), (0 ≤ v1.toInt ∧ v1.toInt ≤ 10 ∧ 10 - v1.toInt < (n : Int)) → zI m → Fr wX12_measures m0 m → Sf (fun r => (True) ∧ zI r ∧ Fr wX12_measures m0 r) (fX12_measures_138 n v1 m) := by
  intro n
  induction n with
  | zero =>
    intro v1 m hp hI hF
    exfalso
    omega
  | succ n ih =>
    intro v1 m hp hI hF
    have hnn : ((n + 1 : Nat) : Int) = (n : Int) + 1 := by omega
    have hfu := fuE
    unfold fX12_measures_138
    have kc1 : 0 ≤ (m.1 72 3).toInt ∧ (m.1 72 3).toInt ≤ 10 := hI.1 72 3
    refine s_le (fun kh2 => ?_) (fun kh2 => ?_)
    · exact s_ret ⟨trivial, hI, hF⟩
    · have kc3 := L0
      exact zX12_measures_148 m0 (fX12_measures_138 n) n ih sm_fu v1 (0 : Int32) m (show 0 ≤ v1.toInt ∧ v1.toInt ≤ 9 ∧ 0 ≤ (0 : Int32).toInt ∧ (0 : Int32).toInt ≤ 10 ∧ 10 - (0 : Int32).toInt < (sm_fu : Int) ∧ 10 - v1.toInt ≤ (n : Int) by omega) hI hF
theorem zX12_measures_57 (m0 : sm_S) : ∀ (n : Nat) (v1 : Int32) (m : sm_S), (0 ≤ v1.toInt ∧ v1.toInt ≤ 14 ∧ 14 - v1.toInt < (n : Int)) → zI m → Fr wX12_measures m0 m → Sf (fun r => (True) ∧ zI r ∧ Fr wX12_measures m0 r) (fX12_measures_57 n v1 m) := by
  intro n
  induction n with
  | zero =>
    intro v1 m hp hI hF
    exfalso
    omega
  | succ n ih =>
    intro v1 m hp hI hF
    have hnn : ((n + 1 : Nat) : Int) = (n : Int) + 1 := by omega
    have hfu := fuE
    unfold fX12_measures_57
    have kc1 : 0 ≤ (m.1 72 6).toInt ∧ (m.1 72 6).toInt ≤ 14 := hI.1 72 6
    have kc2 : 0 ≤ (m.1 72 25).toInt ∧ (m.1 72 25).toInt ≤ 14 := hI.1 72 25
    have kc3 := zI.le hI
    refine s_le (fun kh4 => ?_) (fun kh4 => ?_)
    · have kc5 := L0
      exact zX12_measures_138 m0 sm_fu (0 : Int32) m (show 0 ≤ (0 : Int32).toInt ∧ (0 : Int32).toInt ≤ 10 ∧ 10 - (0 : Int32).toInt < (sm_fu : Int) by omega) hI hF
    · have kc6 : 0 ≤ (m.1 72 14).toInt ∧ (m.1 72 14).toInt ≤ 16383 := hI.1 72 14
      refine s_bd (zX12_has (m.1 72 14) v1 m (show 0 ≤ (m.1 72 14).toInt ∧ (m.1 72 14).toInt ≤ 16383 ∧ 0 ≤ v1.toInt ∧ v1.toInt ≤ 13 by omega) hI) (fun r6 kr7 => ?_)
      replace kr7 : (0 ≤ r6.toInt) ∧ (r6.toInt ≤ 1) := kr7
      have kc8 := L0
      refine s_eq (fun kh9 => ?_) (fun kh9 => ?_)
      · have kx10 : 0 ≤ (v1).toInt ∧ (v1).toInt < (14 : Int) := by omega
        refine s_ix kx10 ?_
        refine s_ix kx10 ?_
        refine s_ix kx10 ?_
        have kc11 : (-1 : Int) ≤ (m.1 76 (v1).toNatClampNeg).toInt ∧ (m.1 76 (v1).toNatClampNeg).toInt ≤ 9 := hI.1 76 (v1).toNatClampNeg
        have kc12 : 0 ≤ (m.1 76 (v1).toNatClampNeg).toInt := zI.pf76 hI v1 (by omega) (by omega)
        refine s_bd (zX12_minutesFrom v1 (m.1 76 (v1).toNatClampNeg) m (show 0 ≤ v1.toInt ∧ v1.toInt ≤ 13 ∧ (-1 : Int) ≤ (m.1 76 (v1).toNatClampNeg).toInt ∧ (m.1 76 (v1).toNatClampNeg).toInt ≤ 9 ∧ v1.toInt < (m.1 72 6).toInt by omega) hI) (fun r11 kr13 => ?_)
        replace kr13 : (1 ≤ r11.toInt) ∧ (r11.toInt ≤ 29) ∧ (((m.1 76 (v1).toNatClampNeg).toInt = (m.1 76 v1.toNatClampNeg).toInt ∧ r11.toInt = (m.1 78 v1.toNatClampNeg).toInt) ∨ ((m.1 76 (v1).toNatClampNeg).toInt ≠ (m.1 76 v1.toNatClampNeg).toInt ∧ r11.toInt = (m.1 78 v1.toNatClampNeg).toInt + (m.1 82 v1.toNatClampNeg).toInt)) := kr13
        have kc14 : (-1 : Int) ≤ (m.1 78 (v1).toNatClampNeg).toInt ∧ (m.1 78 (v1).toNatClampNeg).toInt ≤ 20 := hI.1 78 (v1).toNatClampNeg
        have kc15 : 1 ≤ (m.1 78 (v1).toNatClampNeg).toInt := zI.pf78 hI v1 (by omega) (by omega)
        have kc16 : (-1 : Int) ≤ (m.1 82 (v1).toNatClampNeg).toInt ∧ (m.1 82 (v1).toNatClampNeg).toInt ≤ 9 := hI.1 82 (v1).toNatClampNeg
        have kc17 : 0 ≤ (m.1 82 (v1).toNatClampNeg).toInt := zI.pf82 hI v1 (by omega) (by omega)
        have kc18 : (-1 : Int) ≤ (m.1 77 (v1).toNatClampNeg).toInt ∧ (m.1 77 (v1).toNatClampNeg).toInt ≤ 9 := hI.1 77 (v1).toNatClampNeg
        have kc19 : 0 ≤ (m.1 77 (v1).toNatClampNeg).toInt := zI.pf77 hI v1 (by omega) (by omega)
        refine s_bd (zX12_shortens (m.1 76 (v1).toNatClampNeg) (m.1 77 (v1).toNatClampNeg) r11 m (show 0 ≤ (m.1 76 (v1).toNatClampNeg).toInt ∧ (m.1 76 (v1).toNatClampNeg).toInt ≤ 9 ∧ 0 ≤ (m.1 77 (v1).toNatClampNeg).toInt ∧ (m.1 77 (v1).toNatClampNeg).toInt ≤ 9 ∧ 0 ≤ r11.toInt ∧ r11.toInt ≤ 2000000 by omega) hI) (fun m13 kr20 => ?_)
        obtain ⟨kp21, ki22, kf23⟩ := kr20
        refine s_ix kx10 ?_
        refine s_ix kx10 ?_
        refine s_ix kx10 ?_
        have kc24 : (-1 : Int) ≤ (m13.1 77 (v1).toNatClampNeg).toInt ∧ (m13.1 77 (v1).toNatClampNeg).toInt ≤ 9 := ki22.1 77 (v1).toNatClampNeg
        have kc25 : 0 ≤ (m13.1 72 6).toInt ∧ (m13.1 72 6).toInt ≤ 14 := ki22.1 72 6
        have kc26 : 0 ≤ (m13.1 72 25).toInt ∧ (m13.1 72 25).toInt ≤ 14 := ki22.1 72 25
        have kc27 := zI.le ki22
        have kc28 : (m13.1 72 25).toInt = (m.1 72 25).toInt := congrArg Int32.toInt (kf23 72 25 rfl)
        have kc29 : (m13.1 72 6).toInt = (m.1 72 6).toInt := congrArg Int32.toInt (kf23 72 6 rfl)
        have kc30 : 0 ≤ (m13.1 77 (v1).toNatClampNeg).toInt := zI.pf77 ki22 v1 (by omega) (by omega)
        have kc31 : (m13.1 77 (v1).toNatClampNeg).toInt = (m.1 77 (v1).toNatClampNeg).toInt := congrArg Int32.toInt (kf23 77 (v1).toNatClampNeg rfl)
        refine s_bd (zX12_minutesFrom v1 (m13.1 77 (v1).toNatClampNeg) m13 (show 0 ≤ v1.toInt ∧ v1.toInt ≤ 13 ∧ (-1 : Int) ≤ (m13.1 77 (v1).toNatClampNeg).toInt ∧ (m13.1 77 (v1).toNatClampNeg).toInt ≤ 9 ∧ v1.toInt < (m13.1 72 6).toInt by omega) ki22) (fun r18 kr32 => ?_)
        replace kr32 : (1 ≤ r18.toInt) ∧ (r18.toInt ≤ 29) ∧ (((m13.1 77 (v1).toNatClampNeg).toInt = (m13.1 76 v1.toNatClampNeg).toInt ∧ r18.toInt = (m13.1 78 v1.toNatClampNeg).toInt) ∨ ((m13.1 77 (v1).toNatClampNeg).toInt ≠ (m13.1 76 v1.toNatClampNeg).toInt ∧ r18.toInt = (m13.1 78 v1.toNatClampNeg).toInt + (m13.1 82 v1.toNatClampNeg).toInt)) := kr32
        have kc33 : (-1 : Int) ≤ (m13.1 76 (v1).toNatClampNeg).toInt ∧ (m13.1 76 (v1).toNatClampNeg).toInt ≤ 9 := ki22.1 76 (v1).toNatClampNeg
        have kc34 : 0 ≤ (m13.1 76 (v1).toNatClampNeg).toInt := zI.pf76 ki22 v1 (by omega) (by omega)
        have kc35 : (m13.1 76 (v1).toNatClampNeg).toInt = (m.1 76 (v1).toNatClampNeg).toInt := congrArg Int32.toInt (kf23 76 (v1).toNatClampNeg rfl)
        have kc36 : (-1 : Int) ≤ (m13.1 78 (v1).toNatClampNeg).toInt ∧ (m13.1 78 (v1).toNatClampNeg).toInt ≤ 20 := ki22.1 78 (v1).toNatClampNeg
        have kc37 : 1 ≤ (m13.1 78 (v1).toNatClampNeg).toInt := zI.pf78 ki22 v1 (by omega) (by omega)
        have kc38 : (m13.1 78 (v1).toNatClampNeg).toInt = (m.1 78 (v1).toNatClampNeg).toInt := congrArg Int32.toInt (kf23 78 (v1).toNatClampNeg rfl)
        have kc39 : (-1 : Int) ≤ (m13.1 82 (v1).toNatClampNeg).toInt ∧ (m13.1 82 (v1).toNatClampNeg).toInt ≤ 9 := ki22.1 82 (v1).toNatClampNeg
        have kc40 : 0 ≤ (m13.1 82 (v1).toNatClampNeg).toInt := zI.pf82 ki22 v1 (by omega) (by omega)
        have kc41 : (m13.1 82 (v1).toNatClampNeg).toInt = (m.1 82 (v1).toNatClampNeg).toInt := congrArg Int32.toInt (kf23 82 (v1).toNatClampNeg rfl)
        refine s_bd (zX12_shortens (m13.1 77 (v1).toNatClampNeg) (m13.1 76 (v1).toNatClampNeg) r18 m13 (show 0 ≤ (m13.1 77 (v1).toNatClampNeg).toInt ∧ (m13.1 77 (v1).toNatClampNeg).toInt ≤ 9 ∧ 0 ≤ (m13.1 76 (v1).toNatClampNeg).toInt ∧ (m13.1 76 (v1).toNatClampNeg).toInt ≤ 9 ∧ 0 ≤ r18.toInt ∧ r18.toInt ≤ 2000000 by omega) ki22) (fun m20 kr42 => ?_)
        obtain ⟨kp43, ki44, kf45⟩ := kr42
        have kc46 : (v1 + (1 : Int32)).toInt = (v1).toInt + 1 := a_addl L1 (by omega) (by omega)
        have kf47 : Fr wX12_measures m0 m13 := Fr.trans hF kf23 rfl
        have kf48 : Fr wX12_measures m0 m20 := Fr.trans kf47 kf45 rfl
        exact ih (v1 + (1 : Int32)) m20 (show 0 ≤ (v1 + (1 : Int32)).toInt ∧ (v1 + (1 : Int32)).toInt ≤ 14 ∧ 14 - (v1 + (1 : Int32)).toInt < (n : Int) by omega) ki44 kf48
      · have kc49 : (v1 + (1 : Int32)).toInt = (v1).toInt + 1 := a_addl L1 (by omega) (by omega)
        exact ih (v1 + (1 : Int32)) m (show 0 ≤ (v1 + (1 : Int32)).toInt ∧ (v1 + (1 : Int32)).toInt ≤ 14 ∧ 14 - (v1 + (1 : Int32)).toInt < (n : Int) by omega) hI hF
theorem zX12_measures_12 (m0 : sm_S) (k2 : Int32 → sm_S → Option (sm_S)) (Nk2 : Nat) (hk2 : ∀ (v1 : Int32) (m : sm_S), (0 ≤ v1.toInt ∧ v1.toInt ≤ 10 ∧ 10 - v1.toInt < (Nk2 : Int)) → zI m → Fr wX12_measures m0 m → Sf (fun r => (True) ∧ zI r ∧ Fr wX12_measures m0 r) (k2 v1 m)) : ∀ (n : Nat) (v1 : Int32) (v2 : Int32) (m : sm_S), (0 ≤ v1.toInt ∧ v1.toInt ≤ 9 ∧ 0 ≤ v2.toInt ∧ v2.toInt ≤ 10 ∧ 10 - v2.toInt < (n : Int) ∧ 10 - v1.toInt ≤ (Nk2 : Int)) → zI m → Fr wX12_measures m0 m → Sf (fun r => (True) ∧ zI r ∧ Fr wX12_measures m0 r) (fX12_measures_12 k2 n v1 v2 m) := by
  intro n
  induction n with
  | zero =>
    intro v1 v2 m hp hI hF
    exfalso
    omega
  | succ n ih =>
    intro v1 v2 m hp hI hF
    have hnn : ((n + 1 : Nat) : Int) = (n : Int) + 1 := by omega
    have hfu := fuE
    unfold fX12_measures_12
    have kc1 : 0 ≤ (m.1 72 3).toInt ∧ (m.1 72 3).toInt ≤ 10 := hI.1 72 3
    refine s_le (fun kh2 => ?_) (fun kh2 => ?_)
    · have kc3 : (v1 + (1 : Int32)).toInt = (v1).toInt + 1 := a_addl L1 (by omega) (by omega)
      exact hk2 (v1 + (1 : Int32)) m (show 0 ≤ (v1 + (1 : Int32)).toInt ∧ (v1 + (1 : Int32)).toInt ≤ 10 ∧ 10 - (v1 + (1 : Int32)).toInt < (Nk2 : Int) by omega) hI hF
    · refine s_eq (fun kh4 => ?_) (fun kh4 => ?_)
      · have kc5 := L10
        have kc6 : ((10 : Int32) * v1).toInt = 10 * (v1).toInt := a_mul L10 rfl (by omega) (by omega)
        have kc7 : (((10 : Int32) * v1) + v2).toInt = (((10 : Int32) * v1)).toInt + (v2).toInt := a_add (by omega) (by omega)
        have kx8 : 0 ≤ ((((10 : Int32) * v1) + v2)).toInt ∧ ((((10 : Int32) * v1) + v2)).toInt < (100 : Int) := by omega
        refine s_ix kx8 ?_
        have kc9 : (v2 + (1 : Int32)).toInt = (v2).toInt + 1 := a_addl L1 (by omega) (by omega)
        have kc10 := L0
        have ki11 : zI (sm_w1 m 99 ((((10 : Int32) * v1) + v2)).toNatClampNeg (0 : Int32)) := zI.w hI rfl (show 0 ≤ ((0 : Int32)).toInt ∧ ((0 : Int32)).toInt ≤ 1000000 by omega)
        have kf12 : Fr wX12_measures m0 (sm_w1 m 99 ((((10 : Int32) * v1) + v2)).toNatClampNeg (0 : Int32)) := Fr.w hF rfl
        exact ih v1 (v2 + (1 : Int32)) (sm_w1 m 99 ((((10 : Int32) * v1) + v2)).toNatClampNeg (0 : Int32)) (show 0 ≤ v1.toInt ∧ v1.toInt ≤ 9 ∧ 0 ≤ (v2 + (1 : Int32)).toInt ∧ (v2 + (1 : Int32)).toInt ≤ 10 ∧ 10 - (v2 + (1 : Int32)).toInt < (n : Int) ∧ 10 - v1.toInt ≤ (Nk2 : Int) by omega) ki11 kf12
      · have kc13 := L10
        have kc14 : ((10 : Int32) * v1).toInt = 10 * (v1).toInt := a_mul L10 rfl (by omega) (by omega)
        have kc15 : (((10 : Int32) * v1) + v2).toInt = (((10 : Int32) * v1)).toInt + (v2).toInt := a_add (by omega) (by omega)
        have kx16 : 0 ≤ ((((10 : Int32) * v1) + v2)).toInt ∧ ((((10 : Int32) * v1) + v2)).toInt < (100 : Int) := by omega
        refine s_ix kx16 ?_
        have kc17 : (v2 + (1 : Int32)).toInt = (v2).toInt + 1 := a_addl L1 (by omega) (by omega)
        have kc18 := L1000000
        have ki19 : zI (sm_w1 m 99 ((((10 : Int32) * v1) + v2)).toNatClampNeg (1000000 : Int32)) := zI.w hI rfl (show 0 ≤ ((1000000 : Int32)).toInt ∧ ((1000000 : Int32)).toInt ≤ 1000000 by omega)
        have kf20 : Fr wX12_measures m0 (sm_w1 m 99 ((((10 : Int32) * v1) + v2)).toNatClampNeg (1000000 : Int32)) := Fr.w hF rfl
        exact ih v1 (v2 + (1 : Int32)) (sm_w1 m 99 ((((10 : Int32) * v1) + v2)).toNatClampNeg (1000000 : Int32)) (show 0 ≤ v1.toInt ∧ v1.toInt ≤ 9 ∧ 0 ≤ (v2 + (1 : Int32)).toInt ∧ (v2 + (1 : Int32)).toInt ≤ 10 ∧ 10 - (v2 + (1 : Int32)).toInt < (n : Int) ∧ 10 - v1.toInt ≤ (Nk2 : Int) by omega) ki19 kf20
theorem zX12_measures_2 (m0 : sm_S) : ∀ (n : Nat) (v1 : Int32) (m : sm_S), (0 ≤ v1.toInt ∧ v1.toInt ≤ 10 ∧ 10 - v1.toInt < (n : Int)) → zI m → Fr wX12_measures m0 m → Sf (fun r => (True) ∧ zI r ∧ Fr wX12_measures m0 r) (fX12_measures_2 n v1 m) := by
  intro n
  induction n with
  | zero =>
    intro v1 m hp hI hF
    exfalso
    omega
  | succ n ih =>
    intro v1 m hp hI hF
    have hnn : ((n + 1 : Nat) : Int) = (n : Int) + 1 := by omega
    have hfu := fuE
    unfold fX12_measures_2
    have kc1 : 0 ≤ (m.1 72 3).toInt ∧ (m.1 72 3).toInt ≤ 10 := hI.1 72 3
    refine s_le (fun kh2 => ?_) (fun kh2 => ?_)
    · have kc3 := L0
      exact zX12_measures_57 m0 sm_fu (0 : Int32) m (show 0 ≤ (0 : Int32).toInt ∧ (0 : Int32).toInt ≤ 14 ∧ 14 - (0 : Int32).toInt < (sm_fu : Int) by omega) hI hF
    · have kc4 := L0
      exact zX12_measures_12 m0 (fX12_measures_2 n) n ih sm_fu v1 (0 : Int32) m (show 0 ≤ v1.toInt ∧ v1.toInt ≤ 9 ∧ 0 ≤ (0 : Int32).toInt ∧ (0 : Int32).toInt ≤ 10 ∧ 10 - (0 : Int32).toInt < (sm_fu : Int) ∧ 10 - v1.toInt ≤ (n : Int) by omega) hI hF
theorem zX12_measures (m : sm_S) (hI : zI m) : Sf (fun r => (True) ∧ zI r ∧ Fr wX12_measures m r) (fX12_measures m) := by
  have hfu := fuE
  unfold fX12_measures
  have kc1 := L0
  exact zX12_measures_2 m sm_fu (0 : Int32) m (show 0 ≤ (0 : Int32).toInt ∧ (0 : Int32).toInt ≤ 10 ∧ 10 - (0 : Int32).toInt < (sm_fu : Int) by omega) hI Fr.refl
theorem zX12_gateBy (x1 : Int32) (x2 : Int32) (x3 : Int32) (x4 : Int32) (m : sm_S) (hp : 0 ≤ x1.toInt ∧ x1.toInt ≤ 16383 ∧ 0 ≤ x2.toInt ∧ x2.toInt ≤ 9 ∧ 0 ≤ x3.toInt ∧ x3.toInt ≤ 13 ∧ 0 ≤ x4.toInt ∧ x4.toInt ≤ 9 ∧ x3.toInt < (m.1 72 6).toInt) (hI : zI m) : Sf (fun r => (1 ≤ r.toInt) ∧ (r.toInt ≤ 1000000)) (fX12_gateBy x1 x2 x3 x4 m) := by
  have hfu := fuE
  have kc1 : 0 ≤ (m.1 72 6).toInt ∧ (m.1 72 6).toInt ≤ 14 := hI.1 72 6
  have kc2 : 0 ≤ (m.1 72 25).toInt ∧ (m.1 72 25).toInt ≤ 14 := hI.1 72 25
  have kc3 := zI.le hI
  unfold fX12_gateBy
  have kc4 := L10
  have kc5 : ((10 : Int32) * x2).toInt = 10 * (x2).toInt := a_mul L10 rfl (by omega) (by omega)
  have kc6 : (((10 : Int32) * x2) + x4).toInt = (((10 : Int32) * x2)).toInt + (x4).toInt := a_add (by omega) (by omega)
  have kx7 : 0 ≤ ((((10 : Int32) * x2) + x4)).toInt ∧ ((((10 : Int32) * x2) + x4)).toInt < (100 : Int) := by omega
  refine s_ix kx7 ?_
  refine s_bd (zX12_minutesFrom x3 x4 m (show 0 ≤ x3.toInt ∧ x3.toInt ≤ 13 ∧ (-1 : Int) ≤ x4.toInt ∧ x4.toInt ≤ 9 ∧ x3.toInt < (m.1 72 6).toInt by omega) hI) (fun r3 kr8 => ?_)
  replace kr8 : (1 ≤ r3.toInt) ∧ (r3.toInt ≤ 29) ∧ ((x4.toInt = (m.1 76 x3.toNatClampNeg).toInt ∧ r3.toInt = (m.1 78 x3.toNatClampNeg).toInt) ∨ (x4.toInt ≠ (m.1 76 x3.toNatClampNeg).toInt ∧ r3.toInt = (m.1 78 x3.toNatClampNeg).toInt + (m.1 82 x3.toNatClampNeg).toInt)) := kr8
  have kc9 : (-1 : Int) ≤ (m.1 76 (x3).toNatClampNeg).toInt ∧ (m.1 76 (x3).toNatClampNeg).toInt ≤ 9 := hI.1 76 (x3).toNatClampNeg
  have kc10 : 0 ≤ (m.1 76 (x3).toNatClampNeg).toInt := zI.pf76 hI x3 (by omega) (by omega)
  have kc11 : (-1 : Int) ≤ (m.1 78 (x3).toNatClampNeg).toInt ∧ (m.1 78 (x3).toNatClampNeg).toInt ≤ 20 := hI.1 78 (x3).toNatClampNeg
  have kc12 : 1 ≤ (m.1 78 (x3).toNatClampNeg).toInt := zI.pf78 hI x3 (by omega) (by omega)
  have kc13 : (-1 : Int) ≤ (m.1 82 (x3).toNatClampNeg).toInt ∧ (m.1 82 (x3).toNatClampNeg).toInt ≤ 9 := hI.1 82 (x3).toNatClampNeg
  have kc14 : 0 ≤ (m.1 82 (x3).toNatClampNeg).toInt := zI.pf82 hI x3 (by omega) (by omega)
  refine s_bd (zX12_endOf x3 x4 m (show 0 ≤ x3.toInt ∧ x3.toInt ≤ 13 ∧ (-1 : Int) ≤ x4.toInt ∧ x4.toInt ≤ 9 ∧ x3.toInt < (m.1 72 6).toInt by omega) hI) (fun r5 kr15 => ?_)
  replace kr15 : (0 ≤ r5.toInt) ∧ (r5.toInt ≤ 9) := kr15
  have kc16 := L1
  have kc17 := L31
  have kc18 : 0 ≤ (x3 &&& (31 : Int32)).toInt ∧ (x3 &&& (31 : Int32)).toInt ≤ ((31 : Int32)).toInt := a_andr (by omega)
  have kc19 : 0 ≤ (x3 &&& (31 : Int32)).toInt ∧ (x3 &&& (31 : Int32)).toInt ≤ (x3).toInt := a_andl (by omega)
  have kc20 : 1 ≤ ((1 : Int32) <<< (x3 &&& (31 : Int32))).toInt ∧ ((1 : Int32) <<< (x3 &&& (31 : Int32))).toInt ≤ 8192 := a_shl 13 (by decide) (by decide) (by omega) (by omega)
  have kc21 := Ln1
  have kc22 : 0 ≤ (x1 &&& (((1 : Int32) <<< (x3 &&& (31 : Int32))) ^^^ (-1 : Int32))).toInt ∧ (x1 &&& (((1 : Int32) <<< (x3 &&& (31 : Int32))) ^^^ (-1 : Int32))).toInt ≤ (x1).toInt := a_andl (by omega)
  have kc23 : ((10 : Int32) * (x1 &&& (((1 : Int32) <<< (x3 &&& (31 : Int32))) ^^^ (-1 : Int32)))).toInt = 10 * ((x1 &&& (((1 : Int32) <<< (x3 &&& (31 : Int32))) ^^^ (-1 : Int32)))).toInt := a_mul L10 rfl (by omega) (by omega)
  have kc24 : (((10 : Int32) * (x1 &&& (((1 : Int32) <<< (x3 &&& (31 : Int32))) ^^^ (-1 : Int32)))) + r5).toInt = (((10 : Int32) * (x1 &&& (((1 : Int32) <<< (x3 &&& (31 : Int32))) ^^^ (-1 : Int32))))).toInt + (r5).toInt := a_add (by omega) (by omega)
  have kx25 : 0 ≤ ((((10 : Int32) * (x1 &&& (((1 : Int32) <<< (x3 &&& (31 : Int32))) ^^^ (-1 : Int32)))) + r5)).toInt ∧ ((((10 : Int32) * (x1 &&& (((1 : Int32) <<< (x3 &&& (31 : Int32))) ^^^ (-1 : Int32)))) + r5)).toInt < (163840 : Int) := by omega
  refine s_ix kx25 ?_
  have kc26 : 0 ≤ (m.1 99 ((((10 : Int32) * x2) + x4)).toNatClampNeg).toInt ∧ (m.1 99 ((((10 : Int32) * x2) + x4)).toNatClampNeg).toInt ≤ 1000000 := hI.1 99 ((((10 : Int32) * x2) + x4)).toNatClampNeg
  have kc27 : ((m.1 99 ((((10 : Int32) * x2) + x4)).toNatClampNeg) + r3).toInt = ((m.1 99 ((((10 : Int32) * x2) + x4)).toNatClampNeg)).toInt + (r3).toInt := a_add (by omega) (by omega)
  have kc28 : 0 ≤ (m.1 98 ((((10 : Int32) * (x1 &&& (((1 : Int32) <<< (x3 &&& (31 : Int32))) ^^^ (-1 : Int32)))) + r5)).toNatClampNeg).toInt ∧ (m.1 98 ((((10 : Int32) * (x1 &&& (((1 : Int32) <<< (x3 &&& (31 : Int32))) ^^^ (-1 : Int32)))) + r5)).toNatClampNeg).toInt ≤ 1000000 := hI.1 98 ((((10 : Int32) * (x1 &&& (((1 : Int32) <<< (x3 &&& (31 : Int32))) ^^^ (-1 : Int32)))) + r5)).toNatClampNeg
  have kc29 : (((m.1 99 ((((10 : Int32) * x2) + x4)).toNatClampNeg) + r3) + (m.1 98 ((((10 : Int32) * (x1 &&& (((1 : Int32) <<< (x3 &&& (31 : Int32))) ^^^ (-1 : Int32)))) + r5)).toNatClampNeg)).toInt = (((m.1 99 ((((10 : Int32) * x2) + x4)).toNatClampNeg) + r3)).toInt + ((m.1 98 ((((10 : Int32) * (x1 &&& (((1 : Int32) <<< (x3 &&& (31 : Int32))) ^^^ (-1 : Int32)))) + r5)).toNatClampNeg)).toInt := a_add (by omega) (by omega)
  have kc30 := L1000000
  have kc31 : (((((m.1 99 ((((10 : Int32) * x2) + x4)).toNatClampNeg) + r3) + (m.1 98 ((((10 : Int32) * (x1 &&& (((1 : Int32) <<< (x3 &&& (31 : Int32))) ^^^ (-1 : Int32)))) + r5)).toNatClampNeg))).toInt < ((1000000 : Int32)).toInt ∧ (if (((m.1 99 ((((10 : Int32) * x2) + x4)).toNatClampNeg) + r3) + (m.1 98 ((((10 : Int32) * (x1 &&& (((1 : Int32) <<< (x3 &&& (31 : Int32))) ^^^ (-1 : Int32)))) + r5)).toNatClampNeg)) < (1000000 : Int32) then (((m.1 99 ((((10 : Int32) * x2) + x4)).toNatClampNeg) + r3) + (m.1 98 ((((10 : Int32) * (x1 &&& (((1 : Int32) <<< (x3 &&& (31 : Int32))) ^^^ (-1 : Int32)))) + r5)).toNatClampNeg)) else (1000000 : Int32)).toInt = ((((m.1 99 ((((10 : Int32) * x2) + x4)).toNatClampNeg) + r3) + (m.1 98 ((((10 : Int32) * (x1 &&& (((1 : Int32) <<< (x3 &&& (31 : Int32))) ^^^ (-1 : Int32)))) + r5)).toNatClampNeg))).toInt) ∨ (((1000000 : Int32)).toInt ≤ ((((m.1 99 ((((10 : Int32) * x2) + x4)).toNatClampNeg) + r3) + (m.1 98 ((((10 : Int32) * (x1 &&& (((1 : Int32) <<< (x3 &&& (31 : Int32))) ^^^ (-1 : Int32)))) + r5)).toNatClampNeg))).toInt ∧ (if (((m.1 99 ((((10 : Int32) * x2) + x4)).toNatClampNeg) + r3) + (m.1 98 ((((10 : Int32) * (x1 &&& (((1 : Int32) <<< (x3 &&& (31 : Int32))) ^^^ (-1 : Int32)))) + r5)).toNatClampNeg)) < (1000000 : Int32) then (((m.1 99 ((((10 : Int32) * x2) + x4)).toNatClampNeg) + r3) + (m.1 98 ((((10 : Int32) * (x1 &&& (((1 : Int32) <<< (x3 &&& (31 : Int32))) ^^^ (-1 : Int32)))) + r5)).toNatClampNeg)) else (1000000 : Int32)).toInt = ((1000000 : Int32)).toInt) := a_ilt
  exact s_ret (show (1 ≤ (if (((m.1 99 ((((10 : Int32) * x2) + x4)).toNatClampNeg) + r3) + (m.1 98 ((((10 : Int32) * (x1 &&& (((1 : Int32) <<< (x3 &&& (31 : Int32))) ^^^ (-1 : Int32)))) + r5)).toNatClampNeg)) < (1000000 : Int32) then (((m.1 99 ((((10 : Int32) * x2) + x4)).toNatClampNeg) + r3) + (m.1 98 ((((10 : Int32) * (x1 &&& (((1 : Int32) <<< (x3 &&& (31 : Int32))) ^^^ (-1 : Int32)))) + r5)).toNatClampNeg)) else (1000000 : Int32)).toInt) ∧ ((if (((m.1 99 ((((10 : Int32) * x2) + x4)).toNatClampNeg) + r3) + (m.1 98 ((((10 : Int32) * (x1 &&& (((1 : Int32) <<< (x3 &&& (31 : Int32))) ^^^ (-1 : Int32)))) + r5)).toNatClampNeg)) < (1000000 : Int32) then (((m.1 99 ((((10 : Int32) * x2) + x4)).toNatClampNeg) + r3) + (m.1 98 ((((10 : Int32) * (x1 &&& (((1 : Int32) <<< (x3 &&& (31 : Int32))) ^^^ (-1 : Int32)))) + r5)).toNatClampNeg)) else (1000000 : Int32)).toInt ≤ 1000000) by omega)
theorem zX12_gateBest (x1 : Int32) (x2 : Int32) (x3 : Int32) (m : sm_S) (hp : 0 ≤ x1.toInt ∧ x1.toInt ≤ 16383 ∧ 0 ≤ x2.toInt ∧ x2.toInt ≤ 9 ∧ 0 ≤ x3.toInt ∧ x3.toInt ≤ 13 ∧ x3.toInt < (m.1 72 6).toInt) (hI : zI m) : Sf (fun r => (1 ≤ r.toInt) ∧ (r.toInt ≤ 1000000)) (fX12_gateBest x1 x2 x3 m) := by
  have hfu := fuE
  have kc1 : 0 ≤ (m.1 72 6).toInt ∧ (m.1 72 6).toInt ≤ 14 := hI.1 72 6
  have kc2 : 0 ≤ (m.1 72 25).toInt ∧ (m.1 72 25).toInt ≤ 14 := hI.1 72 25
  have kc3 := zI.le hI
  unfold fX12_gateBest
  have kx4 : 0 ≤ (x3).toInt ∧ (x3).toInt < (14 : Int) := by omega
  refine s_ix kx4 ?_
  have kc5 : (-1 : Int) ≤ (m.1 76 (x3).toNatClampNeg).toInt ∧ (m.1 76 (x3).toNatClampNeg).toInt ≤ 9 := hI.1 76 (x3).toNatClampNeg
  have kc6 : 0 ≤ (m.1 76 (x3).toNatClampNeg).toInt := zI.pf76 hI x3 (by omega) (by omega)
  refine s_bd (zX12_gateBy x1 x2 x3 (m.1 76 (x3).toNatClampNeg) m (show 0 ≤ x1.toInt ∧ x1.toInt ≤ 16383 ∧ 0 ≤ x2.toInt ∧ x2.toInt ≤ 9 ∧ 0 ≤ x3.toInt ∧ x3.toInt ≤ 13 ∧ 0 ≤ (m.1 76 (x3).toNatClampNeg).toInt ∧ (m.1 76 (x3).toNatClampNeg).toInt ≤ 9 ∧ x3.toInt < (m.1 72 6).toInt by omega) hI) (fun r3 kr7 => ?_)
  replace kr7 : (1 ≤ r3.toInt) ∧ (r3.toInt ≤ 1000000) := kr7
  refine s_ix kx4 ?_
  have kc8 : (-1 : Int) ≤ (m.1 77 (x3).toNatClampNeg).toInt ∧ (m.1 77 (x3).toNatClampNeg).toInt ≤ 9 := hI.1 77 (x3).toNatClampNeg
  have kc9 : 0 ≤ (m.1 77 (x3).toNatClampNeg).toInt := zI.pf77 hI x3 (by omega) (by omega)
  refine s_bd (zX12_gateBy x1 x2 x3 (m.1 77 (x3).toNatClampNeg) m (show 0 ≤ x1.toInt ∧ x1.toInt ≤ 16383 ∧ 0 ≤ x2.toInt ∧ x2.toInt ≤ 9 ∧ 0 ≤ x3.toInt ∧ x3.toInt ≤ 13 ∧ 0 ≤ (m.1 77 (x3).toNatClampNeg).toInt ∧ (m.1 77 (x3).toNatClampNeg).toInt ≤ 9 ∧ x3.toInt < (m.1 72 6).toInt by omega) hI) (fun r6 kr10 => ?_)
  replace kr10 : (1 ≤ r6.toInt) ∧ (r6.toInt ≤ 1000000) := kr10
  have kc11 : ((r6).toInt < (r3).toInt ∧ (if r6 < r3 then r6 else r3).toInt = (r6).toInt) ∨ ((r3).toInt ≤ (r6).toInt ∧ (if r6 < r3 then r6 else r3).toInt = (r3).toInt) := a_ilt
  exact s_ret (show (1 ≤ (if r6 < r3 then r6 else r3).toInt) ∧ ((if r6 < r3 then r6 else r3).toInt ≤ 1000000) by omega)
theorem zX12_laysOutGates_53 (m0 : sm_S) (k6 : Int32 → sm_S → Option (sm_S)) (Nk6 : Nat) (hk6 : ∀ (v1 : Int32) (m : sm_S), (0 ≤ v1.toInt ∧ v1.toInt ≤ 16384 ∧ 16384 - v1.toInt < (Nk6 : Int)) → zI m → Fr wX12_laysOutGates m0 m → Sf (fun r => (True) ∧ zI r ∧ Fr wX12_laysOutGates m0 r) (k6 v1 m)) (k30 : Int32 → Int32 → sm_S → Option (sm_S)) (Nk30 : Nat) (hk30 : ∀ (v1 : Int32) (v2 : Int32) (m : sm_S), (0 ≤ v1.toInt ∧ v1.toInt ≤ 16383 ∧ 0 ≤ v2.toInt ∧ v2.toInt ≤ 10 ∧ 10 - v2.toInt < (Nk30 : Int) ∧ 16384 - v1.toInt ≤ (Nk6 : Int)) → zI m → Fr wX12_laysOutGates m0 m → Sf (fun r => (True) ∧ zI r ∧ Fr wX12_laysOutGates m0 r) (k30 v1 v2 m)) : ∀ (n : Nat) (v1 : Int32) (v2 : Int32) (v3 : Int32) (v4 : Int32) (m : sm_S), (0 ≤ v1.toInt ∧ v1.toInt ≤ 16383 ∧ 0 ≤ v2.toInt ∧ v2.toInt ≤ 9 ∧ 0 ≤ v3.toInt ∧ v3.toInt ≤ 1000000 ∧ 0 ≤ v4.toInt ∧ v4.toInt ≤ 14 ∧ 14 - v4.toInt < (n : Int) ∧ 10 - v2.toInt ≤ (Nk30 : Int) ∧ 16384 - v1.toInt ≤ (Nk6 : Int)) → zI m → Fr wX12_laysOutGates m0 m → Sf (fun r => (True) ∧ zI r ∧ Fr wX12_laysOutGates m0 r) (fX12_laysOutGates_53 k30 k6 n v1 v2 v3 v4 m) := by
  intro n
  induction n with
  | zero =>
    intro v1 v2 v3 v4 m hp hI hF
    exfalso
    omega
  | succ n ih =>
    intro v1 v2 v3 v4 m hp hI hF
    have hnn : ((n + 1 : Nat) : Int) = (n : Int) + 1 := by omega
    have hfu := fuE
    unfold fX12_laysOutGates_53
    have kc1 : 0 ≤ (m.1 72 6).toInt ∧ (m.1 72 6).toInt ≤ 14 := hI.1 72 6
    have kc2 : 0 ≤ (m.1 72 25).toInt ∧ (m.1 72 25).toInt ≤ 14 := hI.1 72 25
    have kc3 := zI.le hI
    refine s_le (fun kh4 => ?_) (fun kh4 => ?_)
    · have kc5 := L10
      have kc6 : ((10 : Int32) * v1).toInt = 10 * (v1).toInt := a_mul L10 rfl (by omega) (by omega)
      have kc7 : (((10 : Int32) * v1) + v2).toInt = (((10 : Int32) * v1)).toInt + (v2).toInt := a_add (by omega) (by omega)
      have kx8 : 0 ≤ ((((10 : Int32) * v1) + v2)).toInt ∧ ((((10 : Int32) * v1) + v2)).toInt < (163840 : Int) := by omega
      refine s_ix kx8 ?_
      have kc9 : (v2 + (1 : Int32)).toInt = (v2).toInt + 1 := a_addl L1 (by omega) (by omega)
      have ki10 : zI (sm_w1 m 98 ((((10 : Int32) * v1) + v2)).toNatClampNeg v3) := zI.w hI rfl (show 0 ≤ (v3).toInt ∧ (v3).toInt ≤ 1000000 by omega)
      have kf11 : Fr wX12_laysOutGates m0 (sm_w1 m 98 ((((10 : Int32) * v1) + v2)).toNatClampNeg v3) := Fr.w hF rfl
      exact hk30 v1 (v2 + (1 : Int32)) (sm_w1 m 98 ((((10 : Int32) * v1) + v2)).toNatClampNeg v3) (show 0 ≤ v1.toInt ∧ v1.toInt ≤ 16383 ∧ 0 ≤ (v2 + (1 : Int32)).toInt ∧ (v2 + (1 : Int32)).toInt ≤ 10 ∧ 10 - (v2 + (1 : Int32)).toInt < (Nk30 : Int) ∧ 16384 - v1.toInt ≤ (Nk6 : Int) by omega) ki10 kf11
    · refine s_bd (zX12_has v1 v4 m (show 0 ≤ v1.toInt ∧ v1.toInt ≤ 16383 ∧ 0 ≤ v4.toInt ∧ v4.toInt ≤ 13 by omega) hI) (fun r7 kr12 => ?_)
      replace kr12 : (0 ≤ r7.toInt) ∧ (r7.toInt ≤ 1) := kr12
      have kc13 := L0
      refine s_eq (fun kh14 => ?_) (fun kh14 => ?_)
      · have kc15 : (v4 + (1 : Int32)).toInt = (v4).toInt + 1 := a_addl L1 (by omega) (by omega)
        exact ih v1 v2 v3 (v4 + (1 : Int32)) m (show 0 ≤ v1.toInt ∧ v1.toInt ≤ 16383 ∧ 0 ≤ v2.toInt ∧ v2.toInt ≤ 9 ∧ 0 ≤ v3.toInt ∧ v3.toInt ≤ 1000000 ∧ 0 ≤ (v4 + (1 : Int32)).toInt ∧ (v4 + (1 : Int32)).toInt ≤ 14 ∧ 14 - (v4 + (1 : Int32)).toInt < (n : Int) ∧ 10 - v2.toInt ≤ (Nk30 : Int) ∧ 16384 - v1.toInt ≤ (Nk6 : Int) by omega) hI hF
      · refine s_bd (zX12_gateBest v1 v2 v4 m (show 0 ≤ v1.toInt ∧ v1.toInt ≤ 16383 ∧ 0 ≤ v2.toInt ∧ v2.toInt ≤ 9 ∧ 0 ≤ v4.toInt ∧ v4.toInt ≤ 13 ∧ v4.toInt < (m.1 72 6).toInt by omega) hI) (fun r9 kr16 => ?_)
        replace kr16 : (1 ≤ r9.toInt) ∧ (r9.toInt ≤ 1000000) := kr16
        have kc17 : ((r9).toInt < (v3).toInt ∧ (if r9 < v3 then r9 else v3).toInt = (r9).toInt) ∨ ((v3).toInt ≤ (r9).toInt ∧ (if r9 < v3 then r9 else v3).toInt = (v3).toInt) := a_ilt
        have kc18 : (v4 + (1 : Int32)).toInt = (v4).toInt + 1 := a_addl L1 (by omega) (by omega)
        exact ih v1 v2 (if r9 < v3 then r9 else v3) (v4 + (1 : Int32)) m (show 0 ≤ v1.toInt ∧ v1.toInt ≤ 16383 ∧ 0 ≤ v2.toInt ∧ v2.toInt ≤ 9 ∧ 0 ≤ (if r9 < v3 then r9 else v3).toInt ∧ (if r9 < v3 then r9 else v3).toInt ≤ 1000000 ∧ 0 ≤ (v4 + (1 : Int32)).toInt ∧ (v4 + (1 : Int32)).toInt ≤ 14 ∧ 14 - (v4 + (1 : Int32)).toInt < (n : Int) ∧ 10 - v2.toInt ≤ (Nk30 : Int) ∧ 16384 - v1.toInt ≤ (Nk6 : Int) by omega) hI hF
theorem zX12_laysOutGates_30 (m0 : sm_S) (k6 : Int32 → sm_S → Option (sm_S)) (Nk6 : Nat) (hk6 : ∀ (v1 : Int32) (m : sm_S), (0 ≤ v1.toInt ∧ v1.toInt ≤ 16384 ∧ 16384 - v1.toInt < (Nk6 : Int)) → zI m → Fr wX12_laysOutGates m0 m → Sf (fun r => (True) ∧ zI r ∧ Fr wX12_laysOutGates m0 r) (k6 v1 m)) : ∀ (n : Nat) (v1 : Int32) (v2 : Int32) (m : sm_S), (0 ≤ v1.toInt ∧ v1.toInt ≤ 16383 ∧ 0 ≤ v2.toInt ∧ v2.toInt ≤ 10 ∧ 10 - v2.toInt < (n : Int) ∧ 16384 - v1.toInt ≤ (Nk6 : Int)) → zI m → Fr wX12_laysOutGates m0 m → Sf (fun r => (True) ∧ zI r ∧ Fr wX12_laysOutGates m0 r) (fX12_laysOutGates_30 k6 n v1 v2 m) := by
  intro n
  induction n with
  | zero =>
    intro v1 v2 m hp hI hF
    exfalso
    omega
  | succ n ih =>
    intro v1 v2 m hp hI hF
    have hnn : ((n + 1 : Nat) : Int) = (n : Int) + 1 := by omega
    have hfu := fuE
    unfold fX12_laysOutGates_30
    have kc1 : 0 ≤ (m.1 72 3).toInt ∧ (m.1 72 3).toInt ≤ 10 := hI.1 72 3
    refine s_le (fun kh2 => ?_) (fun kh2 => ?_)
    · have kc3 : (v1 + (1 : Int32)).toInt = (v1).toInt + 1 := a_addl L1 (by omega) (by omega)
      exact hk6 (v1 + (1 : Int32)) m (show 0 ≤ (v1 + (1 : Int32)).toInt ∧ (v1 + (1 : Int32)).toInt ≤ 16384 ∧ 16384 - (v1 + (1 : Int32)).toInt < (Nk6 : Int) by omega) hI hF
    · have kc4 := L0
      refine s_eq (fun kh5 => ?_) (fun kh5 => ?_)
      · exact zX12_laysOutGates_53 m0 k6 Nk6 hk6 (fX12_laysOutGates_30 k6 n) n ih sm_fu v1 v2 (0 : Int32) (0 : Int32) m (show 0 ≤ v1.toInt ∧ v1.toInt ≤ 16383 ∧ 0 ≤ v2.toInt ∧ v2.toInt ≤ 9 ∧ 0 ≤ (0 : Int32).toInt ∧ (0 : Int32).toInt ≤ 1000000 ∧ 0 ≤ (0 : Int32).toInt ∧ (0 : Int32).toInt ≤ 14 ∧ 14 - (0 : Int32).toInt < (sm_fu : Int) ∧ 10 - v2.toInt ≤ (n : Int) ∧ 16384 - v1.toInt ≤ (Nk6 : Int) by omega) hI hF
      · have kc6 := L1000000
        exact zX12_laysOutGates_53 m0 k6 Nk6 hk6 (fX12_laysOutGates_30 k6 n) n ih sm_fu v1 v2 (1000000 : Int32) (0 : Int32) m (show 0 ≤ v1.toInt ∧ v1.toInt ≤ 16383 ∧ 0 ≤ v2.toInt ∧ v2.toInt ≤ 9 ∧ 0 ≤ (1000000 : Int32).toInt ∧ (1000000 : Int32).toInt ≤ 1000000 ∧ 0 ≤ (0 : Int32).toInt ∧ (0 : Int32).toInt ≤ 14 ∧ 14 - (0 : Int32).toInt < (sm_fu : Int) ∧ 10 - v2.toInt ≤ (n : Int) ∧ 16384 - v1.toInt ≤ (Nk6 : Int) by omega) hI hF
theorem zX12_laysOutGates_6 (m0 : sm_S) : ∀ (n : Nat) (v1 : Int32) (m : sm_S), (0 ≤ v1.toInt ∧ v1.toInt ≤ 16384 ∧ 16384 - v1.toInt < (n : Int)) → zI m → Fr wX12_laysOutGates m0 m → Sf (fun r => (True) ∧ zI r ∧ Fr wX12_laysOutGates m0 r) (fX12_laysOutGates_6 n v1 m) := by
  intro n
  induction n with
  | zero =>
    intro v1 m hp hI hF
    exfalso
    omega
  | succ n ih =>
    intro v1 m hp hI hF
    have hnn : ((n + 1 : Nat) : Int) = (n : Int) + 1 := by omega
    have hfu := fuE
    unfold fX12_laysOutGates_6
    refine s_bd (zX12_allHedges m hI) (fun r4 kr1 => ?_)
    replace kr1 : (0 ≤ r4.toInt) ∧ (r4.toInt ≤ 16383) := kr1
    refine s_lt (fun kh2 => ?_) (fun kh2 => ?_)
    · exact s_ret ⟨trivial, hI, hF⟩
    · have kc3 : 0 ≤ (m.1 72 14).toInt ∧ (m.1 72 14).toInt ≤ 16383 := hI.1 72 14
      have kc4 := Ln1
      have kc5 : 0 ≤ (v1 &&& ((m.1 72 14) ^^^ (-1 : Int32))).toInt ∧ (v1 &&& ((m.1 72 14) ^^^ (-1 : Int32))).toInt ≤ (v1).toInt := a_andl (by omega)
      have kc6 := L0
      refine s_eq (fun kh7 => ?_) (fun kh7 => ?_)
      · exact zX12_laysOutGates_30 m0 (fX12_laysOutGates_6 n) n ih sm_fu v1 (0 : Int32) m (show 0 ≤ v1.toInt ∧ v1.toInt ≤ 16383 ∧ 0 ≤ (0 : Int32).toInt ∧ (0 : Int32).toInt ≤ 10 ∧ 10 - (0 : Int32).toInt < (sm_fu : Int) ∧ 16384 - v1.toInt ≤ (n : Int) by omega) hI hF
      · have kc8 : (v1 + (1 : Int32)).toInt = (v1).toInt + 1 := a_addl L1 (by omega) (by omega)
        exact ih (v1 + (1 : Int32)) m (show 0 ≤ (v1 + (1 : Int32)).toInt ∧ (v1 + (1 : Int32)).toInt ≤ 16384 ∧ 16384 - (v1 + (1 : Int32)).toInt < (n : Int) by omega) hI hF
theorem zX12_laysOutGates (m : sm_S) (hI : zI m) : Sf (fun r => (True) ∧ zI r ∧ Fr wX12_laysOutGates m r) (fX12_laysOutGates m) := by
  have hfu := fuE
  unfold fX12_laysOutGates
  refine s_bd (zX12_measures m hI) (fun m2 kr1 => ?_)
  obtain ⟨kp2, ki3, kf4⟩ := kr1
  have kc5 := L0
  have kf6 : Fr wX12_laysOutGates m m2 := Fr.trans Fr.refl kf4 rfl
  exact zX12_laysOutGates_6 m sm_fu (0 : Int32) m2 (show 0 ≤ (0 : Int32).toInt ∧ (0 : Int32).toInt ≤ 16384 ∧ 16384 - (0 : Int32).toInt < (sm_fu : Int) by omega) ki3 kf6
theorem zX12_isOnWay_6 : ∀ (n : Nat) (v1 : Int32) (v2 : Int32) (v3 : Int32) (v4 : Int32) (v5 : Int32) (m : sm_S), (1 ≤ v1.toInt ∧ v1.toInt ≤ 16383 ∧ 0 ≤ v2.toInt ∧ v2.toInt ≤ 13 ∧ 0 ≤ v3.toInt ∧ v3.toInt ≤ 999999 ∧ 0 ≤ v4.toInt ∧ v4.toInt ≤ 1 ∧ 0 ≤ v5.toInt ∧ v5.toInt ≤ 10 ∧ v2.toInt < (m.1 72 6).toInt ∧ 10 - v5.toInt < (n : Int)) → zI m → Sf (fun r => (0 ≤ r.toInt) ∧ (r.toInt ≤ 1)) (fX12_isOnWay_6 n v1 v2 v3 v4 v5 m) := by
  intro n
  induction n with
  | zero =>
    intro v1 v2 v3 v4 v5 m hp hI
    have kc1 : 0 ≤ (m.1 72 6).toInt ∧ (m.1 72 6).toInt ≤ 14 := hI.1 72 6
    have kc2 : 0 ≤ (m.1 72 25).toInt ∧ (m.1 72 25).toInt ≤ 14 := hI.1 72 25
    have kc3 := zI.le hI
    exfalso
    omega
  | succ n ih =>
    intro v1 v2 v3 v4 v5 m hp hI
    have hnn : ((n + 1 : Nat) : Int) = (n : Int) + 1 := by omega
    have hfu := fuE
    have kc1 : 0 ≤ (m.1 72 6).toInt ∧ (m.1 72 6).toInt ≤ 14 := hI.1 72 6
    have kc2 : 0 ≤ (m.1 72 25).toInt ∧ (m.1 72 25).toInt ≤ 14 := hI.1 72 25
    have kc3 := zI.le hI
    unfold fX12_isOnWay_6
    have kc4 : 0 ≤ (m.1 72 3).toInt ∧ (m.1 72 3).toInt ≤ 10 := hI.1 72 3
    refine s_le (fun kh5 => ?_) (fun kh5 => ?_)
    · refine s_nb (show (v4).toInt = 0 ∨ (v4).toInt = 1 by omega) ?_
      exact s_ret (show (0 ≤ v4.toInt) ∧ (v4.toInt ≤ 1) by omega)
    · have kc6 := L0
      refine s_eq (fun kh7 => ?_) (fun kh7 => ?_)
      · have kx8 : 0 ≤ (v5).toInt ∧ (v5).toInt < (10 : Int) := by omega
        refine s_ix kx8 ?_
        have kc9 := L1000000
        have kc10 : 0 ≤ (m.1 100 (v5).toNatClampNeg).toInt ∧ (m.1 100 (v5).toNatClampNeg).toInt ≤ 1000000 := hI.1 100 (v5).toNatClampNeg
        refine s_le (fun kh11 => ?_) (fun kh11 => ?_)
        · have kc12 : (v5 + (1 : Int32)).toInt = (v5).toInt + 1 := a_addl L1 (by omega) (by omega)
          exact ih v1 v2 v3 (0 : Int32) (v5 + (1 : Int32)) m (show 1 ≤ v1.toInt ∧ v1.toInt ≤ 16383 ∧ 0 ≤ v2.toInt ∧ v2.toInt ≤ 13 ∧ 0 ≤ v3.toInt ∧ v3.toInt ≤ 999999 ∧ 0 ≤ (0 : Int32).toInt ∧ (0 : Int32).toInt ≤ 1 ∧ 0 ≤ (v5 + (1 : Int32)).toInt ∧ (v5 + (1 : Int32)).toInt ≤ 10 ∧ v2.toInt < (m.1 72 6).toInt ∧ 10 - (v5 + (1 : Int32)).toInt < (n : Int) by omega) hI
        · refine s_ix kx8 ?_
          refine s_bd (zX12_gateBest v1 v5 v2 m (show 0 ≤ v1.toInt ∧ v1.toInt ≤ 16383 ∧ 0 ≤ v5.toInt ∧ v5.toInt ≤ 9 ∧ 0 ≤ v2.toInt ∧ v2.toInt ≤ 13 ∧ v2.toInt < (m.1 72 6).toInt by omega) hI) (fun r5 kr13 => ?_)
          replace kr13 : (1 ≤ r5.toInt) ∧ (r5.toInt ≤ 1000000) := kr13
          have kc14 : ((m.1 100 (v5).toNatClampNeg) + r5).toInt = ((m.1 100 (v5).toNatClampNeg)).toInt + (r5).toInt := a_add (by omega) (by omega)
          refine s_eq (fun kh15 => ?_) (fun kh15 => ?_)
          · have kc16 := L1
            have kc17 : (v5 + (1 : Int32)).toInt = (v5).toInt + 1 := a_addl L1 (by omega) (by omega)
            exact ih v1 v2 v3 (1 : Int32) (v5 + (1 : Int32)) m (show 1 ≤ v1.toInt ∧ v1.toInt ≤ 16383 ∧ 0 ≤ v2.toInt ∧ v2.toInt ≤ 13 ∧ 0 ≤ v3.toInt ∧ v3.toInt ≤ 999999 ∧ 0 ≤ (1 : Int32).toInt ∧ (1 : Int32).toInt ≤ 1 ∧ 0 ≤ (v5 + (1 : Int32)).toInt ∧ (v5 + (1 : Int32)).toInt ≤ 10 ∧ v2.toInt < (m.1 72 6).toInt ∧ 10 - (v5 + (1 : Int32)).toInt < (n : Int) by omega) hI
          · have kc18 : (v5 + (1 : Int32)).toInt = (v5).toInt + 1 := a_addl L1 (by omega) (by omega)
            exact ih v1 v2 v3 (0 : Int32) (v5 + (1 : Int32)) m (show 1 ≤ v1.toInt ∧ v1.toInt ≤ 16383 ∧ 0 ≤ v2.toInt ∧ v2.toInt ≤ 13 ∧ 0 ≤ v3.toInt ∧ v3.toInt ≤ 999999 ∧ 0 ≤ (0 : Int32).toInt ∧ (0 : Int32).toInt ≤ 1 ∧ 0 ≤ (v5 + (1 : Int32)).toInt ∧ (v5 + (1 : Int32)).toInt ≤ 10 ∧ v2.toInt < (m.1 72 6).toInt ∧ 10 - (v5 + (1 : Int32)).toInt < (n : Int) by omega) hI
      · have kc19 := L1
        have kc20 : (v5 + (1 : Int32)).toInt = (v5).toInt + 1 := a_addl L1 (by omega) (by omega)
        exact ih v1 v2 v3 (1 : Int32) (v5 + (1 : Int32)) m (show 1 ≤ v1.toInt ∧ v1.toInt ≤ 16383 ∧ 0 ≤ v2.toInt ∧ v2.toInt ≤ 13 ∧ 0 ≤ v3.toInt ∧ v3.toInt ≤ 999999 ∧ 0 ≤ (1 : Int32).toInt ∧ (1 : Int32).toInt ≤ 1 ∧ 0 ≤ (v5 + (1 : Int32)).toInt ∧ (v5 + (1 : Int32)).toInt ≤ 10 ∧ v2.toInt < (m.1 72 6).toInt ∧ 10 - (v5 + (1 : Int32)).toInt < (n : Int) by omega) hI
theorem zX12_isOnWay (x1 : Int32) (x2 : Int32) (x3 : Int32) (m : sm_S) (hp : 1 ≤ x1.toInt ∧ x1.toInt ≤ 16383 ∧ 0 ≤ x2.toInt ∧ x2.toInt ≤ 13 ∧ 0 ≤ x3.toInt ∧ x3.toInt ≤ 999999 ∧ x2.toInt < (m.1 72 6).toInt) (hI : zI m) : Sf (fun r => (0 ≤ r.toInt) ∧ (r.toInt ≤ 1)) (fX12_isOnWay x1 x2 x3 m) := by
  have hfu := fuE
  have kc1 : 0 ≤ (m.1 72 6).toInt ∧ (m.1 72 6).toInt ≤ 14 := hI.1 72 6
  have kc2 : 0 ≤ (m.1 72 25).toInt ∧ (m.1 72 25).toInt ≤ 14 := hI.1 72 25
  have kc3 := zI.le hI
  unfold fX12_isOnWay
  have kc4 := L0
  exact zX12_isOnWay_6 sm_fu x1 x2 x3 (0 : Int32) (0 : Int32) m (show 1 ≤ x1.toInt ∧ x1.toInt ≤ 16383 ∧ 0 ≤ x2.toInt ∧ x2.toInt ≤ 13 ∧ 0 ≤ x3.toInt ∧ x3.toInt ≤ 999999 ∧ 0 ≤ (0 : Int32).toInt ∧ (0 : Int32).toInt ≤ 1 ∧ 0 ≤ (0 : Int32).toInt ∧ (0 : Int32).toInt ≤ 10 ∧ x2.toInt < (m.1 72 6).toInt ∧ 10 - (0 : Int32).toInt < (sm_fu : Int) by omega) hI
theorem zX12_comesTo (x1 : Int32) (x2 : Int32) (m : sm_S) (hp : 0 ≤ x1.toInt ∧ x1.toInt ≤ 9 ∧ 1 ≤ x2.toInt ∧ x2.toInt ≤ 2000028) (hI : zI m) : Sf (fun r => (True) ∧ zI r ∧ Fr wX12_comesTo m r) (fX12_comesTo x1 x2 m) := by
  have hfu := fuE
  unfold fX12_comesTo
  have kx1 : 0 ≤ (x1).toInt ∧ (x1).toInt < (10 : Int) := by omega
  refine s_ix kx1 ?_
  refine s_ix kx1 ?_
  have kc2 := L1000000
  have kc3 : ((x2).toInt < ((1000000 : Int32)).toInt ∧ (if x2 < (1000000 : Int32) then x2 else (1000000 : Int32)).toInt = (x2).toInt) ∨ (((1000000 : Int32)).toInt ≤ (x2).toInt ∧ (if x2 < (1000000 : Int32) then x2 else (1000000 : Int32)).toInt = ((1000000 : Int32)).toInt) := a_ilt
  have kc4 : 0 ≤ (m.1 101 (x1).toNatClampNeg).toInt ∧ (m.1 101 (x1).toNatClampNeg).toInt ≤ 1000000 := hI.1 101 (x1).toNatClampNeg
  have kc5 : (((if x2 < (1000000 : Int32) then x2 else (1000000 : Int32))).toInt < ((m.1 101 (x1).toNatClampNeg)).toInt ∧ (if (if x2 < (1000000 : Int32) then x2 else (1000000 : Int32)) < (m.1 101 (x1).toNatClampNeg) then (if x2 < (1000000 : Int32) then x2 else (1000000 : Int32)) else (m.1 101 (x1).toNatClampNeg)).toInt = ((if x2 < (1000000 : Int32) then x2 else (1000000 : Int32))).toInt) ∨ (((m.1 101 (x1).toNatClampNeg)).toInt ≤ ((if x2 < (1000000 : Int32) then x2 else (1000000 : Int32))).toInt ∧ (if (if x2 < (1000000 : Int32) then x2 else (1000000 : Int32)) < (m.1 101 (x1).toNatClampNeg) then (if x2 < (1000000 : Int32) then x2 else (1000000 : Int32)) else (m.1 101 (x1).toNatClampNeg)).toInt = ((m.1 101 (x1).toNatClampNeg)).toInt) := a_ilt
  have ki6 : zI (sm_w1 m 101 (x1).toNatClampNeg (if (if x2 < (1000000 : Int32) then x2 else (1000000 : Int32)) < (m.1 101 (x1).toNatClampNeg) then (if x2 < (1000000 : Int32) then x2 else (1000000 : Int32)) else (m.1 101 (x1).toNatClampNeg))) := zI.w hI rfl (show 0 ≤ ((if (if x2 < (1000000 : Int32) then x2 else (1000000 : Int32)) < (m.1 101 (x1).toNatClampNeg) then (if x2 < (1000000 : Int32) then x2 else (1000000 : Int32)) else (m.1 101 (x1).toNatClampNeg))).toInt ∧ ((if (if x2 < (1000000 : Int32) then x2 else (1000000 : Int32)) < (m.1 101 (x1).toNatClampNeg) then (if x2 < (1000000 : Int32) then x2 else (1000000 : Int32)) else (m.1 101 (x1).toNatClampNeg))).toInt ≤ 1000000 by omega)
  have kf7 : Fr wX12_comesTo m (sm_w1 m 101 (x1).toNatClampNeg (if (if x2 < (1000000 : Int32) then x2 else (1000000 : Int32)) < (m.1 101 (x1).toNatClampNeg) then (if x2 < (1000000 : Int32) then x2 else (1000000 : Int32)) else (m.1 101 (x1).toNatClampNeg))) := Fr.w Fr.refl rfl
  exact s_ret ⟨trivial, ki6, kf7⟩
theorem zX12_goesThrough_145 (m0 : sm_S) : ∀ (n : Nat) (v2 : Int32) (m : sm_S), (0 ≤ v2.toInt ∧ v2.toInt ≤ 10 ∧ 10 - v2.toInt < (n : Int)) → zI m → Fr wX12_goesThrough m0 m → Sf (fun r => (True) ∧ zI r ∧ Fr wX12_goesThrough m0 r) (fX12_goesThrough_145 n v2 m) := by
  intro n
  induction n with
  | zero =>
    intro v2 m hp hI hF
    exfalso
    omega
  | succ n ih =>
    intro v2 m hp hI hF
    have hnn : ((n + 1 : Nat) : Int) = (n : Int) + 1 := by omega
    have hfu := fuE
    unfold fX12_goesThrough_145
    have kc1 : 0 ≤ (m.1 72 3).toInt ∧ (m.1 72 3).toInt ≤ 10 := hI.1 72 3
    refine s_le (fun kh2 => ?_) (fun kh2 => ?_)
    · exact s_ret ⟨trivial, hI, hF⟩
    · have kx3 : 0 ≤ (v2).toInt ∧ (v2).toInt < (10 : Int) := by omega
      refine s_ix kx3 ?_
      refine s_ix kx3 ?_
      have kc4 : (v2 + (1 : Int32)).toInt = (v2).toInt + 1 := a_addl L1 (by omega) (by omega)
      have kc5 : 0 ≤ (m.1 101 (v2).toNatClampNeg).toInt ∧ (m.1 101 (v2).toNatClampNeg).toInt ≤ 1000000 := hI.1 101 (v2).toNatClampNeg
      have ki6 : zI (sm_w1 m 100 (v2).toNatClampNeg (m.1 101 (v2).toNatClampNeg)) := zI.w hI rfl (show 0 ≤ ((m.1 101 (v2).toNatClampNeg)).toInt ∧ ((m.1 101 (v2).toNatClampNeg)).toInt ≤ 1000000 by omega)
      have kf7 : Fr wX12_goesThrough m0 (sm_w1 m 100 (v2).toNatClampNeg (m.1 101 (v2).toNatClampNeg)) := Fr.w hF rfl
      exact ih (v2 + (1 : Int32)) (sm_w1 m 100 (v2).toNatClampNeg (m.1 101 (v2).toNatClampNeg)) (show 0 ≤ (v2 + (1 : Int32)).toInt ∧ (v2 + (1 : Int32)).toInt ≤ 10 ∧ 10 - (v2 + (1 : Int32)).toInt < (n : Int) by omega) ki6 kf7
theorem zX12_goesThrough_27 (m0 : sm_S) : ∀ (n : Nat) (v1 : Int32) (v2 : Int32) (m : sm_S), (0 ≤ v1.toInt ∧ v1.toInt ≤ 13 ∧ 0 ≤ v2.toInt ∧ v2.toInt ≤ 10 ∧ v1.toInt < (m.1 72 6).toInt ∧ 10 - v2.toInt < (n : Int)) → zI m → Fr wX12_goesThrough m0 m → Sf (fun r => (True) ∧ zI r ∧ Fr wX12_goesThrough m0 r) (fX12_goesThrough_27 n v1 v2 m) := by
  intro n
  induction n with
  | zero =>
    intro v1 v2 m hp hI hF
    have kc1 : 0 ≤ (m.1 72 6).toInt ∧ (m.1 72 6).toInt ≤ 14 := hI.1 72 6
    have kc2 : 0 ≤ (m.1 72 25).toInt ∧ (m.1 72 25).toInt ≤ 14 := hI.1 72 25
    have kc3 := zI.le hI
    exfalso
    omega
  | succ n ih =>
    intro v1 v2 m hp hI hF
    have hnn : ((n + 1 : Nat) : Int) = (n : Int) + 1 := by omega
    have hfu := fuE
    have kc1 : 0 ≤ (m.1 72 6).toInt ∧ (m.1 72 6).toInt ≤ 14 := hI.1 72 6
    have kc2 : 0 ≤ (m.1 72 25).toInt ∧ (m.1 72 25).toInt ≤ 14 := hI.1 72 25
    have kc3 := zI.le hI
    unfold fX12_goesThrough_27
    have kc4 : 0 ≤ (m.1 72 3).toInt ∧ (m.1 72 3).toInt ≤ 10 := hI.1 72 3
    refine s_le (fun kh5 => ?_) (fun kh5 => ?_)
    · have kc6 := L0
      exact zX12_goesThrough_145 m0 sm_fu (0 : Int32) m (show 0 ≤ (0 : Int32).toInt ∧ (0 : Int32).toInt ≤ 10 ∧ 10 - (0 : Int32).toInt < (sm_fu : Int) by omega) hI hF
    · have kx7 : 0 ≤ (v2).toInt ∧ (v2).toInt < (10 : Int) := by omega
      refine s_ix kx7 ?_
      have kc8 := L1000000
      have kc9 : 0 ≤ (m.1 100 (v2).toNatClampNeg).toInt ∧ (m.1 100 (v2).toNatClampNeg).toInt ≤ 1000000 := hI.1 100 (v2).toNatClampNeg
      refine s_le (fun kh10 => ?_) (fun kh10 => ?_)
      · have kc11 : (v2 + (1 : Int32)).toInt = (v2).toInt + 1 := a_addl L1 (by omega) (by omega)
        exact ih v1 (v2 + (1 : Int32)) m (show 0 ≤ v1.toInt ∧ v1.toInt ≤ 13 ∧ 0 ≤ (v2 + (1 : Int32)).toInt ∧ (v2 + (1 : Int32)).toInt ≤ 10 ∧ v1.toInt < (m.1 72 6).toInt ∧ 10 - (v2 + (1 : Int32)).toInt < (n : Int) by omega) hI hF
      · have kx12 : 0 ≤ (v1).toInt ∧ (v1).toInt < (14 : Int) := by omega
        refine s_ix kx12 ?_
        refine s_ix kx7 ?_
        refine s_ix kx12 ?_
        have kc13 := L10
        have kc14 : ((10 : Int32) * v2).toInt = 10 * (v2).toInt := a_mul L10 rfl (by omega) (by omega)
        have kc15 : (-1 : Int) ≤ (m.1 76 (v1).toNatClampNeg).toInt ∧ (m.1 76 (v1).toNatClampNeg).toInt ≤ 9 := hI.1 76 (v1).toNatClampNeg
        have kc16 : 0 ≤ (m.1 76 (v1).toNatClampNeg).toInt := zI.pf76 hI v1 (by omega) (by omega)
        have kc17 : (((10 : Int32) * v2) + (m.1 76 (v1).toNatClampNeg)).toInt = (((10 : Int32) * v2)).toInt + ((m.1 76 (v1).toNatClampNeg)).toInt := a_add (by omega) (by omega)
        have kx18 : 0 ≤ ((((10 : Int32) * v2) + (m.1 76 (v1).toNatClampNeg))).toInt ∧ ((((10 : Int32) * v2) + (m.1 76 (v1).toNatClampNeg))).toInt < (100 : Int) := by omega
        refine s_ix kx18 ?_
        refine s_ix kx12 ?_
        refine s_bd (zX12_minutesFrom v1 (m.1 76 (v1).toNatClampNeg) m (show 0 ≤ v1.toInt ∧ v1.toInt ≤ 13 ∧ (-1 : Int) ≤ (m.1 76 (v1).toNatClampNeg).toInt ∧ (m.1 76 (v1).toNatClampNeg).toInt ≤ 9 ∧ v1.toInt < (m.1 72 6).toInt by omega) hI) (fun r10 kr19 => ?_)
        replace kr19 : (1 ≤ r10.toInt) ∧ (r10.toInt ≤ 29) ∧ (((m.1 76 (v1).toNatClampNeg).toInt = (m.1 76 v1.toNatClampNeg).toInt ∧ r10.toInt = (m.1 78 v1.toNatClampNeg).toInt) ∨ ((m.1 76 (v1).toNatClampNeg).toInt ≠ (m.1 76 v1.toNatClampNeg).toInt ∧ r10.toInt = (m.1 78 v1.toNatClampNeg).toInt + (m.1 82 v1.toNatClampNeg).toInt)) := kr19
        have kc20 : (-1 : Int) ≤ (m.1 78 (v1).toNatClampNeg).toInt ∧ (m.1 78 (v1).toNatClampNeg).toInt ≤ 20 := hI.1 78 (v1).toNatClampNeg
        have kc21 : 1 ≤ (m.1 78 (v1).toNatClampNeg).toInt := zI.pf78 hI v1 (by omega) (by omega)
        have kc22 : (-1 : Int) ≤ (m.1 82 (v1).toNatClampNeg).toInt ∧ (m.1 82 (v1).toNatClampNeg).toInt ≤ 9 := hI.1 82 (v1).toNatClampNeg
        have kc23 : 0 ≤ (m.1 82 (v1).toNatClampNeg).toInt := zI.pf82 hI v1 (by omega) (by omega)
        have kc24 : (-1 : Int) ≤ (m.1 77 (v1).toNatClampNeg).toInt ∧ (m.1 77 (v1).toNatClampNeg).toInt ≤ 9 := hI.1 77 (v1).toNatClampNeg
        have kc25 : 0 ≤ (m.1 77 (v1).toNatClampNeg).toInt := zI.pf77 hI v1 (by omega) (by omega)
        have kc26 : 0 ≤ (m.1 99 ((((10 : Int32) * v2) + (m.1 76 (v1).toNatClampNeg))).toNatClampNeg).toInt ∧ (m.1 99 ((((10 : Int32) * v2) + (m.1 76 (v1).toNatClampNeg))).toNatClampNeg).toInt ≤ 1000000 := hI.1 99 ((((10 : Int32) * v2) + (m.1 76 (v1).toNatClampNeg))).toNatClampNeg
        have kc27 : ((m.1 100 (v2).toNatClampNeg) + (m.1 99 ((((10 : Int32) * v2) + (m.1 76 (v1).toNatClampNeg))).toNatClampNeg)).toInt = ((m.1 100 (v2).toNatClampNeg)).toInt + ((m.1 99 ((((10 : Int32) * v2) + (m.1 76 (v1).toNatClampNeg))).toNatClampNeg)).toInt := a_add (by omega) (by omega)
        have kc28 : (((m.1 100 (v2).toNatClampNeg) + (m.1 99 ((((10 : Int32) * v2) + (m.1 76 (v1).toNatClampNeg))).toNatClampNeg)) + r10).toInt = (((m.1 100 (v2).toNatClampNeg) + (m.1 99 ((((10 : Int32) * v2) + (m.1 76 (v1).toNatClampNeg))).toNatClampNeg))).toInt + (r10).toInt := a_add (by omega) (by omega)
        refine s_bd (zX12_comesTo (m.1 77 (v1).toNatClampNeg) (((m.1 100 (v2).toNatClampNeg) + (m.1 99 ((((10 : Int32) * v2) + (m.1 76 (v1).toNatClampNeg))).toNatClampNeg)) + r10) m (show 0 ≤ (m.1 77 (v1).toNatClampNeg).toInt ∧ (m.1 77 (v1).toNatClampNeg).toInt ≤ 9 ∧ 1 ≤ (((m.1 100 (v2).toNatClampNeg) + (m.1 99 ((((10 : Int32) * v2) + (m.1 76 (v1).toNatClampNeg))).toNatClampNeg)) + r10).toInt ∧ (((m.1 100 (v2).toNatClampNeg) + (m.1 99 ((((10 : Int32) * v2) + (m.1 76 (v1).toNatClampNeg))).toNatClampNeg)) + r10).toInt ≤ 2000028 by omega) hI) (fun m12 kr29 => ?_)
        obtain ⟨kp30, ki31, kf32⟩ := kr29
        refine s_ix kx12 ?_
        refine s_ix kx7 ?_
        refine s_ix kx12 ?_
        have kc33 : (-1 : Int) ≤ (m12.1 77 (v1).toNatClampNeg).toInt ∧ (m12.1 77 (v1).toNatClampNeg).toInt ≤ 9 := ki31.1 77 (v1).toNatClampNeg
        have kc34 : 0 ≤ (m12.1 72 6).toInt ∧ (m12.1 72 6).toInt ≤ 14 := ki31.1 72 6
        have kc35 : 0 ≤ (m12.1 72 25).toInt ∧ (m12.1 72 25).toInt ≤ 14 := ki31.1 72 25
        have kc36 := zI.le ki31
        have kc37 : (m12.1 72 25).toInt = (m.1 72 25).toInt := congrArg Int32.toInt (kf32 72 25 rfl)
        have kc38 : (m12.1 72 6).toInt = (m.1 72 6).toInt := congrArg Int32.toInt (kf32 72 6 rfl)
        have kc39 : 0 ≤ (m12.1 77 (v1).toNatClampNeg).toInt := zI.pf77 ki31 v1 (by omega) (by omega)
        have kc40 : (m12.1 77 (v1).toNatClampNeg).toInt = (m.1 77 (v1).toNatClampNeg).toInt := congrArg Int32.toInt (kf32 77 (v1).toNatClampNeg rfl)
        have kc41 : (((10 : Int32) * v2) + (m12.1 77 (v1).toNatClampNeg)).toInt = (((10 : Int32) * v2)).toInt + ((m12.1 77 (v1).toNatClampNeg)).toInt := a_add (by omega) (by omega)
        have kx42 : 0 ≤ ((((10 : Int32) * v2) + (m12.1 77 (v1).toNatClampNeg))).toInt ∧ ((((10 : Int32) * v2) + (m12.1 77 (v1).toNatClampNeg))).toInt < (100 : Int) := by omega
        refine s_ix kx42 ?_
        refine s_ix kx12 ?_
        refine s_bd (zX12_minutesFrom v1 (m12.1 77 (v1).toNatClampNeg) m12 (show 0 ≤ v1.toInt ∧ v1.toInt ≤ 13 ∧ (-1 : Int) ≤ (m12.1 77 (v1).toNatClampNeg).toInt ∧ (m12.1 77 (v1).toNatClampNeg).toInt ≤ 9 ∧ v1.toInt < (m12.1 72 6).toInt by omega) ki31) (fun r19 kr43 => ?_)
        replace kr43 : (1 ≤ r19.toInt) ∧ (r19.toInt ≤ 29) ∧ (((m12.1 77 (v1).toNatClampNeg).toInt = (m12.1 76 v1.toNatClampNeg).toInt ∧ r19.toInt = (m12.1 78 v1.toNatClampNeg).toInt) ∨ ((m12.1 77 (v1).toNatClampNeg).toInt ≠ (m12.1 76 v1.toNatClampNeg).toInt ∧ r19.toInt = (m12.1 78 v1.toNatClampNeg).toInt + (m12.1 82 v1.toNatClampNeg).toInt)) := kr43
        have kc44 : (-1 : Int) ≤ (m12.1 76 (v1).toNatClampNeg).toInt ∧ (m12.1 76 (v1).toNatClampNeg).toInt ≤ 9 := ki31.1 76 (v1).toNatClampNeg
        have kc45 : 0 ≤ (m12.1 76 (v1).toNatClampNeg).toInt := zI.pf76 ki31 v1 (by omega) (by omega)
        have kc46 : (m12.1 76 (v1).toNatClampNeg).toInt = (m.1 76 (v1).toNatClampNeg).toInt := congrArg Int32.toInt (kf32 76 (v1).toNatClampNeg rfl)
        have kc47 : (-1 : Int) ≤ (m12.1 78 (v1).toNatClampNeg).toInt ∧ (m12.1 78 (v1).toNatClampNeg).toInt ≤ 20 := ki31.1 78 (v1).toNatClampNeg
        have kc48 : 1 ≤ (m12.1 78 (v1).toNatClampNeg).toInt := zI.pf78 ki31 v1 (by omega) (by omega)
        have kc49 : (m12.1 78 (v1).toNatClampNeg).toInt = (m.1 78 (v1).toNatClampNeg).toInt := congrArg Int32.toInt (kf32 78 (v1).toNatClampNeg rfl)
        have kc50 : (-1 : Int) ≤ (m12.1 82 (v1).toNatClampNeg).toInt ∧ (m12.1 82 (v1).toNatClampNeg).toInt ≤ 9 := ki31.1 82 (v1).toNatClampNeg
        have kc51 : 0 ≤ (m12.1 82 (v1).toNatClampNeg).toInt := zI.pf82 ki31 v1 (by omega) (by omega)
        have kc52 : (m12.1 82 (v1).toNatClampNeg).toInt = (m.1 82 (v1).toNatClampNeg).toInt := congrArg Int32.toInt (kf32 82 (v1).toNatClampNeg rfl)
        have kc53 : 0 ≤ (m12.1 100 (v2).toNatClampNeg).toInt ∧ (m12.1 100 (v2).toNatClampNeg).toInt ≤ 1000000 := ki31.1 100 (v2).toNatClampNeg
        have kc54 : (m12.1 100 (v2).toNatClampNeg).toInt = (m.1 100 (v2).toNatClampNeg).toInt := congrArg Int32.toInt (kf32 100 (v2).toNatClampNeg rfl)
        have kc55 : 0 ≤ (m12.1 99 ((((10 : Int32) * v2) + (m12.1 77 (v1).toNatClampNeg))).toNatClampNeg).toInt ∧ (m12.1 99 ((((10 : Int32) * v2) + (m12.1 77 (v1).toNatClampNeg))).toNatClampNeg).toInt ≤ 1000000 := ki31.1 99 ((((10 : Int32) * v2) + (m12.1 77 (v1).toNatClampNeg))).toNatClampNeg
        have kc56 : (m12.1 99 ((((10 : Int32) * v2) + (m12.1 77 (v1).toNatClampNeg))).toNatClampNeg).toInt = (m.1 99 ((((10 : Int32) * v2) + (m12.1 77 (v1).toNatClampNeg))).toNatClampNeg).toInt := congrArg Int32.toInt (kf32 99 ((((10 : Int32) * v2) + (m12.1 77 (v1).toNatClampNeg))).toNatClampNeg rfl)
        have kc57 : 0 ≤ (m.1 99 ((((10 : Int32) * v2) + (m12.1 77 (v1).toNatClampNeg))).toNatClampNeg).toInt ∧ (m.1 99 ((((10 : Int32) * v2) + (m12.1 77 (v1).toNatClampNeg))).toNatClampNeg).toInt ≤ 1000000 := hI.1 99 ((((10 : Int32) * v2) + (m12.1 77 (v1).toNatClampNeg))).toNatClampNeg
        have kc58 : ((m12.1 100 (v2).toNatClampNeg) + (m12.1 99 ((((10 : Int32) * v2) + (m12.1 77 (v1).toNatClampNeg))).toNatClampNeg)).toInt = ((m12.1 100 (v2).toNatClampNeg)).toInt + ((m12.1 99 ((((10 : Int32) * v2) + (m12.1 77 (v1).toNatClampNeg))).toNatClampNeg)).toInt := a_add (by omega) (by omega)
        have kc59 : (((m12.1 100 (v2).toNatClampNeg) + (m12.1 99 ((((10 : Int32) * v2) + (m12.1 77 (v1).toNatClampNeg))).toNatClampNeg)) + r19).toInt = (((m12.1 100 (v2).toNatClampNeg) + (m12.1 99 ((((10 : Int32) * v2) + (m12.1 77 (v1).toNatClampNeg))).toNatClampNeg))).toInt + (r19).toInt := a_add (by omega) (by omega)
        refine s_bd (zX12_comesTo (m12.1 76 (v1).toNatClampNeg) (((m12.1 100 (v2).toNatClampNeg) + (m12.1 99 ((((10 : Int32) * v2) + (m12.1 77 (v1).toNatClampNeg))).toNatClampNeg)) + r19) m12 (show 0 ≤ (m12.1 76 (v1).toNatClampNeg).toInt ∧ (m12.1 76 (v1).toNatClampNeg).toInt ≤ 9 ∧ 1 ≤ (((m12.1 100 (v2).toNatClampNeg) + (m12.1 99 ((((10 : Int32) * v2) + (m12.1 77 (v1).toNatClampNeg))).toNatClampNeg)) + r19).toInt ∧ (((m12.1 100 (v2).toNatClampNeg) + (m12.1 99 ((((10 : Int32) * v2) + (m12.1 77 (v1).toNatClampNeg))).toNatClampNeg)) + r19).toInt ≤ 2000028 by omega) ki31) (fun m21 kr60 => ?_)
        obtain ⟨kp61, ki62, kf63⟩ := kr60
        have kc64 : (v2 + (1 : Int32)).toInt = (v2).toInt + 1 := a_addl L1 (by omega) (by omega)
        have kc65 : 0 ≤ (m21.1 72 6).toInt ∧ (m21.1 72 6).toInt ≤ 14 := ki62.1 72 6
        have kc66 : 0 ≤ (m21.1 72 25).toInt ∧ (m21.1 72 25).toInt ≤ 14 := ki62.1 72 25
        have kc67 := zI.le ki62
        have kc68 : (m21.1 72 25).toInt = (m12.1 72 25).toInt := congrArg Int32.toInt (kf63 72 25 rfl)
        have kc69 : (m21.1 72 6).toInt = (m12.1 72 6).toInt := congrArg Int32.toInt (kf63 72 6 rfl)
        have kf70 : Fr wX12_goesThrough m0 m12 := Fr.trans hF kf32 rfl
        have kf71 : Fr wX12_goesThrough m0 m21 := Fr.trans kf70 kf63 rfl
        exact ih v1 (v2 + (1 : Int32)) m21 (show 0 ≤ v1.toInt ∧ v1.toInt ≤ 13 ∧ 0 ≤ (v2 + (1 : Int32)).toInt ∧ (v2 + (1 : Int32)).toInt ≤ 10 ∧ v1.toInt < (m21.1 72 6).toInt ∧ 10 - (v2 + (1 : Int32)).toInt < (n : Int) by omega) ki62 kf71
