theorem zX12_allHedges (m : sm_S) (hI : zI m) : Sf (fun r => (0 ≤ r.toInt) ∧ (r.toInt ≤ 16383)) (fX12_allHedges m) := by
  have hfu := fuE
  unfold fX12_allHedges
  have kc1 := L1
  have kc2 : 0 ≤ (m.1 72 6).toInt ∧ (m.1 72 6).toInt ≤ 14 := hI.1 72 6
  have kc3 : 0 ≤ (m.1 72 25).toInt ∧ (m.1 72 25).toInt ≤ 14 := hI.1 72 25
  have kc4 := zI.le hI
  have kc5 := L31
  have kc6 : 0 ≤ ((m.1 72 6) &&& (31 : Int32)).toInt ∧ ((m.1 72 6) &&& (31 : Int32)).toInt ≤ ((31 : Int32)).toInt := a_andr (by omega)
  have kc7 : 0 ≤ ((m.1 72 6) &&& (31 : Int32)).toInt ∧ ((m.1 72 6) &&& (31 : Int32)).toInt ≤ ((m.1 72 6)).toInt := a_andl (by omega)
  have kc8 : 1 ≤ ((1 : Int32) <<< ((m.1 72 6) &&& (31 : Int32))).toInt ∧ ((1 : Int32) <<< ((m.1 72 6) &&& (31 : Int32))).toInt ≤ 16384 := a_shl 14 (by decide) (by decide) (by omega) (by omega)
  have kc9 : (((1 : Int32) <<< ((m.1 72 6) &&& (31 : Int32))) - (1 : Int32)).toInt = (((1 : Int32) <<< ((m.1 72 6) &&& (31 : Int32)))).toInt - 1 := a_subl L1 (by omega) (by omega)
  exact s_ret (show (0 ≤ (((1 : Int32) <<< ((m.1 72 6) &&& (31 : Int32))) - (1 : Int32)).toInt) ∧ ((((1 : Int32) <<< ((m.1 72 6) &&& (31 : Int32))) - (1 : Int32)).toInt ≤ 16383) by omega)
theorem zX12_oddOf_4 : ∀ (n : Nat) (v1 : Int32) (v2 : Int32) (v3 : Int32) (m : sm_S), (0 ≤ v1.toInt ∧ v1.toInt ≤ 16383 ∧ 0 ≤ v2.toInt ∧ v2.toInt ≤ 1023 ∧ 0 ≤ v3.toInt ∧ v3.toInt ≤ 14 ∧ 14 - v3.toInt < (n : Int)) → zI m → Sf (fun r => (0 ≤ r.toInt) ∧ (r.toInt ≤ 1023)) (fX12_oddOf_4 n v1 v2 v3 m) := by
  intro n
  induction n with
  | zero =>
    intro v1 v2 v3 m hp hI
    exfalso
    omega
  | succ n ih =>
    intro v1 v2 v3 m hp hI
    have hnn : ((n + 1 : Nat) : Int) = (n : Int) + 1 := by omega
    have hfu := fuE
    unfold fX12_oddOf_4
    have kc1 : 0 ≤ (m.1 72 6).toInt ∧ (m.1 72 6).toInt ≤ 14 := hI.1 72 6
    have kc2 : 0 ≤ (m.1 72 25).toInt ∧ (m.1 72 25).toInt ≤ 14 := hI.1 72 25
    have kc3 := zI.le hI
    refine s_le (fun kh4 => ?_) (fun kh4 => ?_)
    · exact s_ret (show (0 ≤ v2.toInt) ∧ (v2.toInt ≤ 1023) by omega)
    · refine s_bd (zX12_has v1 v3 m (show 0 ≤ v1.toInt ∧ v1.toInt ≤ 16383 ∧ 0 ≤ v3.toInt ∧ v3.toInt ≤ 13 by omega) hI) (fun r2 kr5 => ?_)
      replace kr5 : (0 ≤ r2.toInt) ∧ (r2.toInt ≤ 1) := kr5
      have kc6 := L0
      refine s_eq (fun kh7 => ?_) (fun kh7 => ?_)
      · have kc8 : 0 ≤ (v2 ^^^ (0 : Int32)).toInt ∧ (v2 ^^^ (0 : Int32)).toInt < 1024 := a_xor 10 (by decide) (by decide) (by omega) (by omega) (by omega) (by omega)
        have kc9 : (v3 + (1 : Int32)).toInt = (v3).toInt + 1 := a_addl L1 (by omega) (by omega)
        exact ih v1 (v2 ^^^ (0 : Int32)) (v3 + (1 : Int32)) m (show 0 ≤ v1.toInt ∧ v1.toInt ≤ 16383 ∧ 0 ≤ (v2 ^^^ (0 : Int32)).toInt ∧ (v2 ^^^ (0 : Int32)).toInt ≤ 1023 ∧ 0 ≤ (v3 + (1 : Int32)).toInt ∧ (v3 + (1 : Int32)).toInt ≤ 14 ∧ 14 - (v3 + (1 : Int32)).toInt < (n : Int) by omega) hI
      · have kx10 : 0 ≤ (v3).toInt ∧ (v3).toInt < (14 : Int) := by omega
        refine s_ix kx10 ?_
        refine s_ix kx10 ?_
        have kc11 := L1
        have kc12 : (-1 : Int) ≤ (m.1 76 (v3).toNatClampNeg).toInt ∧ (m.1 76 (v3).toNatClampNeg).toInt ≤ 9 := hI.1 76 (v3).toNatClampNeg
        have kc13 : 0 ≤ (m.1 76 (v3).toNatClampNeg).toInt := zI.pf76 hI v3 (by omega) (by omega)
        have kc14 := L31
        have kc15 : 0 ≤ ((m.1 76 (v3).toNatClampNeg) &&& (31 : Int32)).toInt ∧ ((m.1 76 (v3).toNatClampNeg) &&& (31 : Int32)).toInt ≤ ((31 : Int32)).toInt := a_andr (by omega)
        have kc16 : 0 ≤ ((m.1 76 (v3).toNatClampNeg) &&& (31 : Int32)).toInt ∧ ((m.1 76 (v3).toNatClampNeg) &&& (31 : Int32)).toInt ≤ ((m.1 76 (v3).toNatClampNeg)).toInt := a_andl (by omega)
        have kc17 : 1 ≤ ((1 : Int32) <<< ((m.1 76 (v3).toNatClampNeg) &&& (31 : Int32))).toInt ∧ ((1 : Int32) <<< ((m.1 76 (v3).toNatClampNeg) &&& (31 : Int32))).toInt ≤ 512 := a_shl 9 (by decide) (by decide) (by omega) (by omega)
        have kc18 : (-1 : Int) ≤ (m.1 77 (v3).toNatClampNeg).toInt ∧ (m.1 77 (v3).toNatClampNeg).toInt ≤ 9 := hI.1 77 (v3).toNatClampNeg
        have kc19 : 0 ≤ (m.1 77 (v3).toNatClampNeg).toInt := zI.pf77 hI v3 (by omega) (by omega)
        have kc20 : 0 ≤ ((m.1 77 (v3).toNatClampNeg) &&& (31 : Int32)).toInt ∧ ((m.1 77 (v3).toNatClampNeg) &&& (31 : Int32)).toInt ≤ ((31 : Int32)).toInt := a_andr (by omega)
        have kc21 : 0 ≤ ((m.1 77 (v3).toNatClampNeg) &&& (31 : Int32)).toInt ∧ ((m.1 77 (v3).toNatClampNeg) &&& (31 : Int32)).toInt ≤ ((m.1 77 (v3).toNatClampNeg)).toInt := a_andl (by omega)
        have kc22 : 1 ≤ ((1 : Int32) <<< ((m.1 77 (v3).toNatClampNeg) &&& (31 : Int32))).toInt ∧ ((1 : Int32) <<< ((m.1 77 (v3).toNatClampNeg) &&& (31 : Int32))).toInt ≤ 512 := a_shl 9 (by decide) (by decide) (by omega) (by omega)
        have kc23 : 0 ≤ (((1 : Int32) <<< ((m.1 76 (v3).toNatClampNeg) &&& (31 : Int32))) ^^^ ((1 : Int32) <<< ((m.1 77 (v3).toNatClampNeg) &&& (31 : Int32)))).toInt ∧ (((1 : Int32) <<< ((m.1 76 (v3).toNatClampNeg) &&& (31 : Int32))) ^^^ ((1 : Int32) <<< ((m.1 77 (v3).toNatClampNeg) &&& (31 : Int32)))).toInt < 1024 := a_xor 10 (by decide) (by decide) (by omega) (by omega) (by omega) (by omega)
        have kc24 : 0 ≤ (v2 ^^^ (((1 : Int32) <<< ((m.1 76 (v3).toNatClampNeg) &&& (31 : Int32))) ^^^ ((1 : Int32) <<< ((m.1 77 (v3).toNatClampNeg) &&& (31 : Int32))))).toInt ∧ (v2 ^^^ (((1 : Int32) <<< ((m.1 76 (v3).toNatClampNeg) &&& (31 : Int32))) ^^^ ((1 : Int32) <<< ((m.1 77 (v3).toNatClampNeg) &&& (31 : Int32))))).toInt < 1024 := a_xor 10 (by decide) (by decide) (by omega) (by omega) (by omega) (by omega)
        have kc25 : (v3 + (1 : Int32)).toInt = (v3).toInt + 1 := a_addl L1 (by omega) (by omega)
        exact ih v1 (v2 ^^^ (((1 : Int32) <<< ((m.1 76 (v3).toNatClampNeg) &&& (31 : Int32))) ^^^ ((1 : Int32) <<< ((m.1 77 (v3).toNatClampNeg) &&& (31 : Int32))))) (v3 + (1 : Int32)) m (show 0 ≤ v1.toInt ∧ v1.toInt ≤ 16383 ∧ 0 ≤ (v2 ^^^ (((1 : Int32) <<< ((m.1 76 (v3).toNatClampNeg) &&& (31 : Int32))) ^^^ ((1 : Int32) <<< ((m.1 77 (v3).toNatClampNeg) &&& (31 : Int32))))).toInt ∧ (v2 ^^^ (((1 : Int32) <<< ((m.1 76 (v3).toNatClampNeg) &&& (31 : Int32))) ^^^ ((1 : Int32) <<< ((m.1 77 (v3).toNatClampNeg) &&& (31 : Int32))))).toInt ≤ 1023 ∧ 0 ≤ (v3 + (1 : Int32)).toInt ∧ (v3 + (1 : Int32)).toInt ≤ 14 ∧ 14 - (v3 + (1 : Int32)).toInt < (n : Int) by omega) hI
theorem zX12_oddOf (x1 : Int32) (m : sm_S) (hp : 0 ≤ x1.toInt ∧ x1.toInt ≤ 16383) (hI : zI m) : Sf (fun r => (0 ≤ r.toInt) ∧ (r.toInt ≤ 1023)) (fX12_oddOf x1 m) := by
  have hfu := fuE
  unfold fX12_oddOf
  have kc1 := L0
  exact zX12_oddOf_4 sm_fu x1 (0 : Int32) (0 : Int32) m (show 0 ≤ x1.toInt ∧ x1.toInt ≤ 16383 ∧ 0 ≤ (0 : Int32).toInt ∧ (0 : Int32).toInt ≤ 1023 ∧ 0 ≤ (0 : Int32).toInt ∧ (0 : Int32).toInt ≤ 14 ∧ 14 - (0 : Int32).toInt < (sm_fu : Int) by omega) hI
theorem zX12_odd (m : sm_S) (hI : zI m) : Sf (fun r => ((0 ≤ r.1.toInt) ∧ (r.1.toInt ≤ 63)) ∧ zI r.2 ∧ Fr wX12_odd m r.2) (fX12_odd m) := by
  have hfu := fuE
  unfold fX12_odd
  have kc1 := L0
  have ki2 : zI (sm_w1 m 72 0 (0 : Int32)) := zI.w hI rfl (show 0 ≤ ((0 : Int32)).toInt ∧ ((0 : Int32)).toInt ≤ 1 by omega)
  refine s_bd (zX12_allHedges (sm_w1 m 72 0 (0 : Int32)) ki2) (fun r2 kr3 => ?_)
  replace kr3 : (0 ≤ r2.toInt) ∧ (r2.toInt ≤ 16383) := kr3
  refine s_bd (zX12_oddOf r2 (sm_w1 m 72 0 (0 : Int32)) (show 0 ≤ r2.toInt ∧ r2.toInt ≤ 16383 by omega) ki2) (fun r4 kr4 => ?_)
  replace kr4 : (0 ≤ r4.toInt) ∧ (r4.toInt ≤ 1023) := kr4
  have ki5 : zI (sm_w1 (sm_w1 m 72 0 (0 : Int32)) 72 1 (0 : Int32)) := zI.w ki2 rfl (show 0 ≤ ((0 : Int32)).toInt ∧ ((0 : Int32)).toInt ≤ 24 by omega)
  have kc6 : 0 ≤ ((sm_w1 (sm_w1 m 72 0 (0 : Int32)) 72 1 (0 : Int32)).1 72 1).toInt ∧ ((sm_w1 (sm_w1 m 72 0 (0 : Int32)) 72 1 (0 : Int32)).1 72 1).toInt ≤ 24 := ki5.1 72 1
  have kc7 : ((sm_w1 (sm_w1 m 72 0 (0 : Int32)) 72 1 (0 : Int32)).1 72 1).toInt = ((0 : Int32)).toInt := rfl
  refine s_bd (zX12_enters r4 (sm_w1 (sm_w1 m 72 0 (0 : Int32)) 72 1 (0 : Int32)) (show ((sm_w1 (sm_w1 m 72 0 (0 : Int32)) 72 1 (0 : Int32)).1 72 1).toInt ≤ 23 by omega) ki5) (fun m6 kr8 => ?_)
  obtain ⟨kp9, ki10, kf11⟩ := kr8
  replace kp9 : ((m6.1 72 1).toInt = ((sm_w1 (sm_w1 m 72 0 (0 : Int32)) 72 1 (0 : Int32)).1 72 1).toInt + 1) := kp9
  have kc12 : 0 ≤ (m6.1 72 1).toInt ∧ (m6.1 72 1).toInt ≤ 24 := ki10.1 72 1
  refine s_bd (zJ6_bitCount_0f7a4 r4 m6 (show 0 ≤ r4.toInt ∧ r4.toInt ≤ 16383 by omega) ki10) (fun r8 kr13 => ?_)
  replace kr13 : (0 ≤ r8.toInt) ∧ (r8.toInt ≤ 63) := kr13
  have kf14 : Fr wX12_odd m (sm_w1 m 72 0 (0 : Int32)) := Fr.w Fr.refl rfl
  have kf15 : Fr wX12_odd m (sm_w1 (sm_w1 m 72 0 (0 : Int32)) 72 1 (0 : Int32)) := Fr.w kf14 rfl
  have kf16 : Fr wX12_odd m m6 := Fr.trans kf15 kf11 rfl
  exact s_ret ⟨(show (0 ≤ r8.toInt) ∧ (r8.toInt ≤ 63) by omega), ki10, kf16⟩
theorem zX12_parts_35 (m0 : sm_S) (k25 : Int32 → Int32 → sm_S → Option (sm_S)) (Nk25 : Nat) (hk25 : ∀ (v1 : Int32) (v2 : Int32) (m : sm_S), (0 ≤ v1.toInt ∧ v1.toInt ≤ 16383 ∧ 0 ≤ v2.toInt ∧ v2.toInt ≤ 10 ∧ 10 - v2.toInt < (Nk25 : Int)) → zI m → Fr wX12_parts m0 m → Sf (fun r => (True) ∧ zI r ∧ Fr wX12_parts m0 r) (k25 v1 v2 m)) : ∀ (n : Nat) (v1 : Int32) (v2 : Int32) (v3 : Int32) (m : sm_S), (0 ≤ v1.toInt ∧ v1.toInt ≤ 16383 ∧ 0 ≤ v2.toInt ∧ v2.toInt ≤ 9 ∧ 0 ≤ v3.toInt ∧ v3.toInt ≤ 14 ∧ 14 - v3.toInt < (n : Int) ∧ 10 - v2.toInt ≤ (Nk25 : Int)) → zI m → Fr wX12_parts m0 m → Sf (fun r => (True) ∧ zI r ∧ Fr wX12_parts m0 r) (fX12_parts_35 k25 n v1 v2 v3 m) := by
  intro n
  induction n with
  | zero =>
    intro v1 v2 v3 m hp hI hF
    exfalso
    omega
  | succ n ih =>
    intro v1 v2 v3 m hp hI hF
    have hnn : ((n + 1 : Nat) : Int) = (n : Int) + 1 := by omega
    have hfu := fuE
    unfold fX12_parts_35
    have kc1 : 0 ≤ (m.1 72 6).toInt ∧ (m.1 72 6).toInt ≤ 14 := hI.1 72 6
    have kc2 : 0 ≤ (m.1 72 25).toInt ∧ (m.1 72 25).toInt ≤ 14 := hI.1 72 25
    have kc3 := zI.le hI
    refine s_le (fun kh4 => ?_) (fun kh4 => ?_)
    · have kc5 : (v2 + (1 : Int32)).toInt = (v2).toInt + 1 := a_addl L1 (by omega) (by omega)
      exact hk25 v1 (v2 + (1 : Int32)) m (show 0 ≤ v1.toInt ∧ v1.toInt ≤ 16383 ∧ 0 ≤ (v2 + (1 : Int32)).toInt ∧ (v2 + (1 : Int32)).toInt ≤ 10 ∧ 10 - (v2 + (1 : Int32)).toInt < (Nk25 : Int) by omega) hI hF
    · refine s_bd (zX12_has v1 v3 m (show 0 ≤ v1.toInt ∧ v1.toInt ≤ 16383 ∧ 0 ≤ v3.toInt ∧ v3.toInt ≤ 13 by omega) hI) (fun r2 kr6 => ?_)
      replace kr6 : (0 ≤ r2.toInt) ∧ (r2.toInt ≤ 1) := kr6
      have kc7 := L0
      refine s_eq (fun kh8 => ?_) (fun kh8 => ?_)
      · have kc9 : (v3 + (1 : Int32)).toInt = (v3).toInt + 1 := a_addl L1 (by omega) (by omega)
        exact ih v1 v2 (v3 + (1 : Int32)) m (show 0 ≤ v1.toInt ∧ v1.toInt ≤ 16383 ∧ 0 ≤ v2.toInt ∧ v2.toInt ≤ 9 ∧ 0 ≤ (v3 + (1 : Int32)).toInt ∧ (v3 + (1 : Int32)).toInt ≤ 14 ∧ 14 - (v3 + (1 : Int32)).toInt < (n : Int) ∧ 10 - v2.toInt ≤ (Nk25 : Int) by omega) hI hF
      · have kx10 : 0 ≤ (v3).toInt ∧ (v3).toInt < (14 : Int) := by omega
        refine s_ix kx10 ?_
        have kc11 : (-1 : Int) ≤ (m.1 76 (v3).toNatClampNeg).toInt ∧ (m.1 76 (v3).toNatClampNeg).toInt ≤ 9 := hI.1 76 (v3).toNatClampNeg
        have kc12 : 0 ≤ (m.1 76 (v3).toNatClampNeg).toInt := zI.pf76 hI v3 (by omega) (by omega)
        have kx13 : 0 ≤ ((m.1 76 (v3).toNatClampNeg)).toInt ∧ ((m.1 76 (v3).toNatClampNeg)).toInt < (10 : Int) := by omega
        refine s_ix kx13 ?_
        refine s_ix kx10 ?_
        have kc14 : (-1 : Int) ≤ (m.1 77 (v3).toNatClampNeg).toInt ∧ (m.1 77 (v3).toNatClampNeg).toInt ≤ 9 := hI.1 77 (v3).toNatClampNeg
        have kc15 : 0 ≤ (m.1 77 (v3).toNatClampNeg).toInt := zI.pf77 hI v3 (by omega) (by omega)
        have kx16 : 0 ≤ ((m.1 77 (v3).toNatClampNeg)).toInt ∧ ((m.1 77 (v3).toNatClampNeg)).toInt < (10 : Int) := by omega
        refine s_ix kx16 ?_
        refine s_ix kx10 ?_
        refine s_ix kx13 ?_
        refine s_ix kx10 ?_
        refine s_ix kx16 ?_
        have kc17 : (v3 + (1 : Int32)).toInt = (v3).toInt + 1 := a_addl L1 (by omega) (by omega)
        have kc18 : 0 ≤ (m.1 94 ((m.1 77 (v3).toNatClampNeg)).toNatClampNeg).toInt ∧ (m.1 94 ((m.1 77 (v3).toNatClampNeg)).toNatClampNeg).toInt ≤ 9 := hI.1 94 ((m.1 77 (v3).toNatClampNeg)).toNatClampNeg
        have kc19 : 0 ≤ (m.1 94 ((m.1 76 (v3).toNatClampNeg)).toNatClampNeg).toInt ∧ (m.1 94 ((m.1 76 (v3).toNatClampNeg)).toNatClampNeg).toInt ≤ 9 := hI.1 94 ((m.1 76 (v3).toNatClampNeg)).toNatClampNeg
        have kc20 : (((m.1 94 ((m.1 77 (v3).toNatClampNeg)).toNatClampNeg)).toInt < ((m.1 94 ((m.1 76 (v3).toNatClampNeg)).toNatClampNeg)).toInt ∧ (if (m.1 94 ((m.1 77 (v3).toNatClampNeg)).toNatClampNeg) < (m.1 94 ((m.1 76 (v3).toNatClampNeg)).toNatClampNeg) then (m.1 94 ((m.1 77 (v3).toNatClampNeg)).toNatClampNeg) else (m.1 94 ((m.1 76 (v3).toNatClampNeg)).toNatClampNeg)).toInt = ((m.1 94 ((m.1 77 (v3).toNatClampNeg)).toNatClampNeg)).toInt) ∨ (((m.1 94 ((m.1 76 (v3).toNatClampNeg)).toNatClampNeg)).toInt ≤ ((m.1 94 ((m.1 77 (v3).toNatClampNeg)).toNatClampNeg)).toInt ∧ (if (m.1 94 ((m.1 77 (v3).toNatClampNeg)).toNatClampNeg) < (m.1 94 ((m.1 76 (v3).toNatClampNeg)).toNatClampNeg) then (m.1 94 ((m.1 77 (v3).toNatClampNeg)).toNatClampNeg) else (m.1 94 ((m.1 76 (v3).toNatClampNeg)).toNatClampNeg)).toInt = ((m.1 94 ((m.1 76 (v3).toNatClampNeg)).toNatClampNeg)).toInt) := a_ilt
        have ki21 : zI (sm_w1 m 94 ((m.1 76 (v3).toNatClampNeg)).toNatClampNeg (if (m.1 94 ((m.1 77 (v3).toNatClampNeg)).toNatClampNeg) < (m.1 94 ((m.1 76 (v3).toNatClampNeg)).toNatClampNeg) then (m.1 94 ((m.1 77 (v3).toNatClampNeg)).toNatClampNeg) else (m.1 94 ((m.1 76 (v3).toNatClampNeg)).toNatClampNeg))) := zI.w hI rfl (show 0 ≤ ((if (m.1 94 ((m.1 77 (v3).toNatClampNeg)).toNatClampNeg) < (m.1 94 ((m.1 76 (v3).toNatClampNeg)).toNatClampNeg) then (m.1 94 ((m.1 77 (v3).toNatClampNeg)).toNatClampNeg) else (m.1 94 ((m.1 76 (v3).toNatClampNeg)).toNatClampNeg))).toInt ∧ ((if (m.1 94 ((m.1 77 (v3).toNatClampNeg)).toNatClampNeg) < (m.1 94 ((m.1 76 (v3).toNatClampNeg)).toNatClampNeg) then (m.1 94 ((m.1 77 (v3).toNatClampNeg)).toNatClampNeg) else (m.1 94 ((m.1 76 (v3).toNatClampNeg)).toNatClampNeg))).toInt ≤ 9 by omega)
        have ki22 : zI (sm_w1 (sm_w1 m 94 ((m.1 76 (v3).toNatClampNeg)).toNatClampNeg (if (m.1 94 ((m.1 77 (v3).toNatClampNeg)).toNatClampNeg) < (m.1 94 ((m.1 76 (v3).toNatClampNeg)).toNatClampNeg) then (m.1 94 ((m.1 77 (v3).toNatClampNeg)).toNatClampNeg) else (m.1 94 ((m.1 76 (v3).toNatClampNeg)).toNatClampNeg))) 94 ((m.1 77 (v3).toNatClampNeg)).toNatClampNeg (if (m.1 94 ((m.1 77 (v3).toNatClampNeg)).toNatClampNeg) < (m.1 94 ((m.1 76 (v3).toNatClampNeg)).toNatClampNeg) then (m.1 94 ((m.1 77 (v3).toNatClampNeg)).toNatClampNeg) else (m.1 94 ((m.1 76 (v3).toNatClampNeg)).toNatClampNeg))) := zI.w ki21 rfl (show 0 ≤ ((if (m.1 94 ((m.1 77 (v3).toNatClampNeg)).toNatClampNeg) < (m.1 94 ((m.1 76 (v3).toNatClampNeg)).toNatClampNeg) then (m.1 94 ((m.1 77 (v3).toNatClampNeg)).toNatClampNeg) else (m.1 94 ((m.1 76 (v3).toNatClampNeg)).toNatClampNeg))).toInt ∧ ((if (m.1 94 ((m.1 77 (v3).toNatClampNeg)).toNatClampNeg) < (m.1 94 ((m.1 76 (v3).toNatClampNeg)).toNatClampNeg) then (m.1 94 ((m.1 77 (v3).toNatClampNeg)).toNatClampNeg) else (m.1 94 ((m.1 76 (v3).toNatClampNeg)).toNatClampNeg))).toInt ≤ 9 by omega)
        have kf23 : Fr wX12_parts m0 (sm_w1 m 94 ((m.1 76 (v3).toNatClampNeg)).toNatClampNeg (if (m.1 94 ((m.1 77 (v3).toNatClampNeg)).toNatClampNeg) < (m.1 94 ((m.1 76 (v3).toNatClampNeg)).toNatClampNeg) then (m.1 94 ((m.1 77 (v3).toNatClampNeg)).toNatClampNeg) else (m.1 94 ((m.1 76 (v3).toNatClampNeg)).toNatClampNeg))) := Fr.w hF rfl
        have kf24 : Fr wX12_parts m0 (sm_w1 (sm_w1 m 94 ((m.1 76 (v3).toNatClampNeg)).toNatClampNeg (if (m.1 94 ((m.1 77 (v3).toNatClampNeg)).toNatClampNeg) < (m.1 94 ((m.1 76 (v3).toNatClampNeg)).toNatClampNeg) then (m.1 94 ((m.1 77 (v3).toNatClampNeg)).toNatClampNeg) else (m.1 94 ((m.1 76 (v3).toNatClampNeg)).toNatClampNeg))) 94 ((m.1 77 (v3).toNatClampNeg)).toNatClampNeg (if (m.1 94 ((m.1 77 (v3).toNatClampNeg)).toNatClampNeg) < (m.1 94 ((m.1 76 (v3).toNatClampNeg)).toNatClampNeg) then (m.1 94 ((m.1 77 (v3).toNatClampNeg)).toNatClampNeg) else (m.1 94 ((m.1 76 (v3).toNatClampNeg)).toNatClampNeg))) := Fr.w kf23 rfl
        exact ih v1 v2 (v3 + (1 : Int32)) (sm_w1 (sm_w1 m 94 ((m.1 76 (v3).toNatClampNeg)).toNatClampNeg (if (m.1 94 ((m.1 77 (v3).toNatClampNeg)).toNatClampNeg) < (m.1 94 ((m.1 76 (v3).toNatClampNeg)).toNatClampNeg) then (m.1 94 ((m.1 77 (v3).toNatClampNeg)).toNatClampNeg) else (m.1 94 ((m.1 76 (v3).toNatClampNeg)).toNatClampNeg))) 94 ((m.1 77 (v3).toNatClampNeg)).toNatClampNeg (if (m.1 94 ((m.1 77 (v3).toNatClampNeg)).toNatClampNeg) < (m.1 94 ((m.1 76 (v3).toNatClampNeg)).toNatClampNeg) then (m.1 94 ((m.1 77 (v3).toNatClampNeg)).toNatClampNeg) else (m.1 94 ((m.1 76 (v3).toNatClampNeg)).toNatClampNeg))) (show 0 ≤ v1.toInt ∧ v1.toInt ≤ 16383 ∧ 0 ≤ v2.toInt ∧ v2.toInt ≤ 9 ∧ 0 ≤ (v3 + (1 : Int32)).toInt ∧ (v3 + (1 : Int32)).toInt ≤ 14 ∧ 14 - (v3 + (1 : Int32)).toInt < (n : Int) ∧ 10 - v2.toInt ≤ (Nk25 : Int) by omega) ki22 kf24
theorem zX12_parts_25 (m0 : sm_S) : ∀ (n : Nat) (v1 : Int32) (v2 : Int32) (m : sm_S), (0 ≤ v1.toInt ∧ v1.toInt ≤ 16383 ∧ 0 ≤ v2.toInt ∧ v2.toInt ≤ 10 ∧ 10 - v2.toInt < (n : Int)) → zI m → Fr wX12_parts m0 m → Sf (fun r => (True) ∧ zI r ∧ Fr wX12_parts m0 r) (fX12_parts_25 n v1 v2 m) := by
  intro n
  induction n with
  | zero =>
    intro v1 v2 m hp hI hF
    exfalso
    omega
  | succ n ih =>
    intro v1 v2 m hp hI hF
    have hnn : ((n + 1 : Nat) : Int) = (n : Int) + 1 := by omega
    have hfu := fuE
    unfold fX12_parts_25
    have kc1 : 0 ≤ (m.1 72 3).toInt ∧ (m.1 72 3).toInt ≤ 10 := hI.1 72 3
    refine s_le (fun kh2 => ?_) (fun kh2 => ?_)
    · exact s_ret ⟨trivial, hI, hF⟩
    · have kc3 := L0
      exact zX12_parts_35 m0 (fX12_parts_25 n) n ih sm_fu v1 v2 (0 : Int32) m (show 0 ≤ v1.toInt ∧ v1.toInt ≤ 16383 ∧ 0 ≤ v2.toInt ∧ v2.toInt ≤ 9 ∧ 0 ≤ (0 : Int32).toInt ∧ (0 : Int32).toInt ≤ 14 ∧ 14 - (0 : Int32).toInt < (sm_fu : Int) ∧ 10 - v2.toInt ≤ (n : Int) by omega) hI hF
theorem zX12_parts_2 (m0 : sm_S) : ∀ (n : Nat) (v1 : Int32) (v2 : Int32) (m : sm_S), (0 ≤ v1.toInt ∧ v1.toInt ≤ 16383 ∧ 0 ≤ v2.toInt ∧ v2.toInt ≤ 10 ∧ 10 - v2.toInt < (n : Int)) → zI m → Fr wX12_parts m0 m → Sf (fun r => (True) ∧ zI r ∧ Fr wX12_parts m0 r) (fX12_parts_2 n v1 v2 m) := by
  intro n
  induction n with
  | zero =>
    intro v1 v2 m hp hI hF
    exfalso
    omega
  | succ n ih =>
    intro v1 v2 m hp hI hF
    have hnn : ((n + 1 : Nat) : Int) = (n : Int) + 1 := by omega
    have hfu := fuE
    unfold fX12_parts_2
    have kc1 : 0 ≤ (m.1 72 3).toInt ∧ (m.1 72 3).toInt ≤ 10 := hI.1 72 3
    refine s_le (fun kh2 => ?_) (fun kh2 => ?_)
    · have kc3 := L0
      exact zX12_parts_25 m0 sm_fu v1 (0 : Int32) m (show 0 ≤ v1.toInt ∧ v1.toInt ≤ 16383 ∧ 0 ≤ (0 : Int32).toInt ∧ (0 : Int32).toInt ≤ 10 ∧ 10 - (0 : Int32).toInt < (sm_fu : Int) by omega) hI hF
    · have kx4 : 0 ≤ (v2).toInt ∧ (v2).toInt < (10 : Int) := by omega
      refine s_ix kx4 ?_
      have kc5 : (v2 + (1 : Int32)).toInt = (v2).toInt + 1 := a_addl L1 (by omega) (by omega)
      have ki6 : zI (sm_w1 m 94 (v2).toNatClampNeg v2) := zI.w hI rfl (show 0 ≤ (v2).toInt ∧ (v2).toInt ≤ 9 by omega)
      have kf7 : Fr wX12_parts m0 (sm_w1 m 94 (v2).toNatClampNeg v2) := Fr.w hF rfl
      exact ih v1 (v2 + (1 : Int32)) (sm_w1 m 94 (v2).toNatClampNeg v2) (show 0 ≤ v1.toInt ∧ v1.toInt ≤ 16383 ∧ 0 ≤ (v2 + (1 : Int32)).toInt ∧ (v2 + (1 : Int32)).toInt ≤ 10 ∧ 10 - (v2 + (1 : Int32)).toInt < (n : Int) by omega) ki6 kf7
theorem zX12_parts (x1 : Int32) (m : sm_S) (hp : 0 ≤ x1.toInt ∧ x1.toInt ≤ 16383) (hI : zI m) : Sf (fun r => (True) ∧ zI r ∧ Fr wX12_parts m r) (fX12_parts x1 m) := by
  have hfu := fuE
  unfold fX12_parts
  have kc1 := L0
  exact zX12_parts_2 m sm_fu x1 (0 : Int32) m (show 0 ≤ x1.toInt ∧ x1.toInt ≤ 16383 ∧ 0 ≤ (0 : Int32).toInt ∧ (0 : Int32).toInt ≤ 10 ∧ 10 - (0 : Int32).toInt < (sm_fu : Int) by omega) hI Fr.refl
theorem zX12_partOfHedges_5 : ∀ (n : Nat) (v1 : Int32) (v2 : Int32) (v3 : Int32) (v4 : Int32) (m : sm_S), (0 ≤ v1.toInt ∧ v1.toInt ≤ 9 ∧ 0 ≤ v2.toInt ∧ v2.toInt ≤ 16383 ∧ 0 ≤ v3.toInt ∧ v3.toInt ≤ 16383 ∧ 0 ≤ v4.toInt ∧ v4.toInt ≤ 14 ∧ 14 - v4.toInt < (n : Int)) → zI m → Sf (fun r => (0 ≤ r.toInt) ∧ (r.toInt ≤ 16383)) (fX12_partOfHedges_5 n v1 v2 v3 v4 m) := by
  intro n
  induction n with
  | zero =>
    intro v1 v2 v3 v4 m hp hI
    exfalso
    omega
  | succ n ih =>
    intro v1 v2 v3 v4 m hp hI
    have hnn : ((n + 1 : Nat) : Int) = (n : Int) + 1 := by omega
    have hfu := fuE
    unfold fX12_partOfHedges_5
    have kc1 : 0 ≤ (m.1 72 6).toInt ∧ (m.1 72 6).toInt ≤ 14 := hI.1 72 6
    have kc2 : 0 ≤ (m.1 72 25).toInt ∧ (m.1 72 25).toInt ≤ 14 := hI.1 72 25
    have kc3 := zI.le hI
    refine s_le (fun kh4 => ?_) (fun kh4 => ?_)
    · exact s_ret (show (0 ≤ v3.toInt) ∧ (v3.toInt ≤ 16383) by omega)
    · refine s_bd (zX12_has v2 v4 m (show 0 ≤ v2.toInt ∧ v2.toInt ≤ 16383 ∧ 0 ≤ v4.toInt ∧ v4.toInt ≤ 13 by omega) hI) (fun r2 kr5 => ?_)
      replace kr5 : (0 ≤ r2.toInt) ∧ (r2.toInt ≤ 1) := kr5
      have kc6 := L0
      refine s_eq (fun kh7 => ?_) (fun kh7 => ?_)
      · have kc8 : 0 ≤ (v3 ||| (0 : Int32)).toInt ∧ (v3 ||| (0 : Int32)).toInt < 16384 := a_or 14 (by decide) (by decide) (by omega) (by omega) (by omega) (by omega)
        have kc9 : (v4 + (1 : Int32)).toInt = (v4).toInt + 1 := a_addl L1 (by omega) (by omega)
        exact ih v1 v2 (v3 ||| (0 : Int32)) (v4 + (1 : Int32)) m (show 0 ≤ v1.toInt ∧ v1.toInt ≤ 9 ∧ 0 ≤ v2.toInt ∧ v2.toInt ≤ 16383 ∧ 0 ≤ (v3 ||| (0 : Int32)).toInt ∧ (v3 ||| (0 : Int32)).toInt ≤ 16383 ∧ 0 ≤ (v4 + (1 : Int32)).toInt ∧ (v4 + (1 : Int32)).toInt ≤ 14 ∧ 14 - (v4 + (1 : Int32)).toInt < (n : Int) by omega) hI
      · have kx10 : 0 ≤ (v4).toInt ∧ (v4).toInt < (14 : Int) := by omega
        refine s_ix kx10 ?_
        have kc11 : (-1 : Int) ≤ (m.1 76 (v4).toNatClampNeg).toInt ∧ (m.1 76 (v4).toNatClampNeg).toInt ≤ 9 := hI.1 76 (v4).toNatClampNeg
        have kc12 : 0 ≤ (m.1 76 (v4).toNatClampNeg).toInt := zI.pf76 hI v4 (by omega) (by omega)
        have kx13 : 0 ≤ ((m.1 76 (v4).toNatClampNeg)).toInt ∧ ((m.1 76 (v4).toNatClampNeg)).toInt < (10 : Int) := by omega
        refine s_ix kx13 ?_
        have kc14 : 0 ≤ (m.1 94 ((m.1 76 (v4).toNatClampNeg)).toNatClampNeg).toInt ∧ (m.1 94 ((m.1 76 (v4).toNatClampNeg)).toNatClampNeg).toInt ≤ 9 := hI.1 94 ((m.1 76 (v4).toNatClampNeg)).toNatClampNeg
        refine s_eq (fun kh15 => ?_) (fun kh15 => ?_)
        · have kc16 := L1
          have kc17 := L31
          have kc18 : 0 ≤ (v4 &&& (31 : Int32)).toInt ∧ (v4 &&& (31 : Int32)).toInt ≤ ((31 : Int32)).toInt := a_andr (by omega)
          have kc19 : 0 ≤ (v4 &&& (31 : Int32)).toInt ∧ (v4 &&& (31 : Int32)).toInt ≤ (v4).toInt := a_andl (by omega)
          have kc20 : 1 ≤ ((1 : Int32) <<< (v4 &&& (31 : Int32))).toInt ∧ ((1 : Int32) <<< (v4 &&& (31 : Int32))).toInt ≤ 8192 := a_shl 13 (by decide) (by decide) (by omega) (by omega)
          have kc21 : 0 ≤ (v3 ||| ((1 : Int32) <<< (v4 &&& (31 : Int32)))).toInt ∧ (v3 ||| ((1 : Int32) <<< (v4 &&& (31 : Int32)))).toInt < 16384 := a_or 14 (by decide) (by decide) (by omega) (by omega) (by omega) (by omega)
          have kc22 : (v4 + (1 : Int32)).toInt = (v4).toInt + 1 := a_addl L1 (by omega) (by omega)
          exact ih v1 v2 (v3 ||| ((1 : Int32) <<< (v4 &&& (31 : Int32)))) (v4 + (1 : Int32)) m (show 0 ≤ v1.toInt ∧ v1.toInt ≤ 9 ∧ 0 ≤ v2.toInt ∧ v2.toInt ≤ 16383 ∧ 0 ≤ (v3 ||| ((1 : Int32) <<< (v4 &&& (31 : Int32)))).toInt ∧ (v3 ||| ((1 : Int32) <<< (v4 &&& (31 : Int32)))).toInt ≤ 16383 ∧ 0 ≤ (v4 + (1 : Int32)).toInt ∧ (v4 + (1 : Int32)).toInt ≤ 14 ∧ 14 - (v4 + (1 : Int32)).toInt < (n : Int) by omega) hI
        · have kc23 : 0 ≤ (v3 ||| (0 : Int32)).toInt ∧ (v3 ||| (0 : Int32)).toInt < 16384 := a_or 14 (by decide) (by decide) (by omega) (by omega) (by omega) (by omega)
          have kc24 : (v4 + (1 : Int32)).toInt = (v4).toInt + 1 := a_addl L1 (by omega) (by omega)
          exact ih v1 v2 (v3 ||| (0 : Int32)) (v4 + (1 : Int32)) m (show 0 ≤ v1.toInt ∧ v1.toInt ≤ 9 ∧ 0 ≤ v2.toInt ∧ v2.toInt ≤ 16383 ∧ 0 ≤ (v3 ||| (0 : Int32)).toInt ∧ (v3 ||| (0 : Int32)).toInt ≤ 16383 ∧ 0 ≤ (v4 + (1 : Int32)).toInt ∧ (v4 + (1 : Int32)).toInt ≤ 14 ∧ 14 - (v4 + (1 : Int32)).toInt < (n : Int) by omega) hI
theorem zX12_partOfHedges (x1 : Int32) (x2 : Int32) (m : sm_S) (hp : 0 ≤ x1.toInt ∧ x1.toInt ≤ 9 ∧ 0 ≤ x2.toInt ∧ x2.toInt ≤ 16383) (hI : zI m) : Sf (fun r => (0 ≤ r.toInt) ∧ (r.toInt ≤ 16383)) (fX12_partOfHedges x1 x2 m) := by
  have hfu := fuE
  unfold fX12_partOfHedges
  have kc1 := L0
  exact zX12_partOfHedges_5 sm_fu x1 x2 (0 : Int32) (0 : Int32) m (show 0 ≤ x1.toInt ∧ x1.toInt ≤ 9 ∧ 0 ≤ x2.toInt ∧ x2.toInt ≤ 16383 ∧ 0 ≤ (0 : Int32).toInt ∧ (0 : Int32).toInt ≤ 16383 ∧ 0 ≤ (0 : Int32).toInt ∧ (0 : Int32).toInt ≤ 14 ∧ 14 - (0 : Int32).toInt < (sm_fu : Int) by omega) hI
theorem zX12_men_19 (m0 : sm_S) : ∀ (n : Nat) (v1 : Int32) (v2 : Int32) (v3 : Int32) (m : sm_S), (0 ≤ v3.toInt ∧ v3.toInt ≤ 10 ∧ 10 - v3.toInt < (n : Int)) → zI m → Fr wX12_men m0 m → Sf (fun r => (True) ∧ zI r.2 ∧ Fr wX12_men m0 r.2) (fX12_men_19 n v1 v2 v3 m) := by
  intro n
  induction n with
  | zero =>
    intro v1 v2 v3 m hp hI hF
    exfalso
    omega
  | succ n ih =>
    intro v1 v2 v3 m hp hI hF
    have hnn : ((n + 1 : Nat) : Int) = (n : Int) + 1 := by omega
    have hfu := fuE
    unfold fX12_men_19
    have kc1 : 0 ≤ (m.1 72 3).toInt ∧ (m.1 72 3).toInt ≤ 10 := hI.1 72 3
    refine s_le (fun kh2 => ?_) (fun kh2 => ?_)
    · have kc3 := L0
      have ki4 : zI (sm_w1 m 72 1 (0 : Int32)) := zI.w hI rfl (show 0 ≤ ((0 : Int32)).toInt ∧ ((0 : Int32)).toInt ≤ 24 by omega)
      have kc5 : 0 ≤ ((sm_w1 m 72 1 (0 : Int32)).1 72 1).toInt ∧ ((sm_w1 m 72 1 (0 : Int32)).1 72 1).toInt ≤ 24 := ki4.1 72 1
      have kc6 : ((sm_w1 m 72 1 (0 : Int32)).1 72 1).toInt = ((0 : Int32)).toInt := rfl
      refine s_bd (zX12_enters v2 (sm_w1 m 72 1 (0 : Int32)) (show ((sm_w1 m 72 1 (0 : Int32)).1 72 1).toInt ≤ 23 by omega) ki4) (fun m6 kr7 => ?_)
      obtain ⟨kp8, ki9, kf10⟩ := kr7
      replace kp8 : ((m6.1 72 1).toInt = ((sm_w1 m 72 1 (0 : Int32)).1 72 1).toInt + 1) := kp8
      have kc11 : 0 ≤ (m6.1 72 1).toInt ∧ (m6.1 72 1).toInt ≤ 24 := ki9.1 72 1
      have kf12 : Fr wX12_men m0 (sm_w1 m 72 1 (0 : Int32)) := Fr.w hF rfl
      have kf13 : Fr wX12_men m0 m6 := Fr.trans kf12 kf10 rfl
      exact s_ret ⟨trivial, ki9, kf13⟩
    · refine s_bd (zX12_allHedges m hI) (fun r8 kr14 => ?_)
      replace kr14 : (0 ≤ r8.toInt) ∧ (r8.toInt ≤ 16383) := kr14
      refine s_bd (zX12_partOfHedges v3 r8 m (show 0 ≤ v3.toInt ∧ v3.toInt ≤ 9 ∧ 0 ≤ r8.toInt ∧ r8.toInt ≤ 16383 by omega) hI) (fun r10 kr15 => ?_)
      replace kr15 : (0 ≤ r10.toInt) ∧ (r10.toInt ≤ 16383) := kr15
      have kc16 := L0
      refine s_eq (fun kh17 => ?_) (fun kh17 => ?_)
      · have kc18 : (v3 + (1 : Int32)).toInt = (v3).toInt + 1 := a_addl L1 (by omega) (by omega)
        exact ih v1 v2 (v3 + (1 : Int32)) m (show 0 ≤ (v3 + (1 : Int32)).toInt ∧ (v3 + (1 : Int32)).toInt ≤ 10 ∧ 10 - (v3 + (1 : Int32)).toInt < (n : Int) by omega) hI hF
      · refine s_bd (zX12_oddOf r10 m (show 0 ≤ r10.toInt ∧ r10.toInt ≤ 16383 by omega) hI) (fun r12 kr19 => ?_)
        replace kr19 : (0 ≤ r12.toInt) ∧ (r12.toInt ≤ 1023) := kr19
        refine s_bd (zJ6_bitCount_0f7a4 r12 m (show 0 ≤ r12.toInt ∧ r12.toInt ≤ 16383 by omega) hI) (fun r14 kr20 => ?_)
        replace kr20 : (0 ≤ r14.toInt) ∧ (r14.toInt ≤ 63) := kr20
        have kc21 := L1
        have kc22 := L2
        have kc23 : (r14 / (2 : Int32)).toInt = (r14).toInt / 2 := (a_div (by omega) (by omega)).trans (congrArg (fun z => (r14).toInt / z) L2)
        have kc24 : (((1 : Int32)).toInt < ((r14 / (2 : Int32))).toInt ∧ (if (1 : Int32) < (r14 / (2 : Int32)) then (r14 / (2 : Int32)) else (1 : Int32)).toInt = ((r14 / (2 : Int32))).toInt) ∨ (((r14 / (2 : Int32))).toInt ≤ ((1 : Int32)).toInt ∧ (if (1 : Int32) < (r14 / (2 : Int32)) then (r14 / (2 : Int32)) else (1 : Int32)).toInt = ((1 : Int32)).toInt) := a_ilt
        have kc25 : (v3 + (1 : Int32)).toInt = (v3).toInt + 1 := a_addl L1 (by omega) (by omega)
        exact ih (v1 + (if (1 : Int32) < (r14 / (2 : Int32)) then (r14 / (2 : Int32)) else (1 : Int32))) (v2 + (1 : Int32)) (v3 + (1 : Int32)) m (show 0 ≤ (v3 + (1 : Int32)).toInt ∧ (v3 + (1 : Int32)).toInt ≤ 10 ∧ 10 - (v3 + (1 : Int32)).toInt < (n : Int) by omega) hI hF
theorem zX12_men (m : sm_S) (hI : zI m) : Sf (fun r => (True) ∧ zI r.2 ∧ Fr wX12_men m r.2) (fX12_men m) := by
  have hfu := fuE
  unfold fX12_men
  have kc1 := L0
  have ki2 : zI (sm_w1 m 72 0 (0 : Int32)) := zI.w hI rfl (show 0 ≤ ((0 : Int32)).toInt ∧ ((0 : Int32)).toInt ≤ 1 by omega)
  refine s_bd (zX12_allHedges (sm_w1 m 72 0 (0 : Int32)) ki2) (fun r2 kr3 => ?_)
  replace kr3 : (0 ≤ r2.toInt) ∧ (r2.toInt ≤ 16383) := kr3
  refine s_bd (zX12_parts r2 (sm_w1 m 72 0 (0 : Int32)) (show 0 ≤ r2.toInt ∧ r2.toInt ≤ 16383 by omega) ki2) (fun m4 kr4 => ?_)
  obtain ⟨kp5, ki6, kf7⟩ := kr4
  have kf8 : Fr wX12_men m (sm_w1 m 72 0 (0 : Int32)) := Fr.w Fr.refl rfl
  have kf9 : Fr wX12_men m m4 := Fr.trans kf8 kf7 rfl
  exact zX12_men_19 m sm_fu (0 : Int32) (0 : Int32) (0 : Int32) m4 (show 0 ≤ (0 : Int32).toInt ∧ (0 : Int32).toInt ≤ 10 ∧ 10 - (0 : Int32).toInt < (sm_fu : Int) by omega) ki6 kf9
theorem zX12_canTrail (x1 : Int32) (x2 : Int32) (m : sm_S) (hp : 0 ≤ x1.toInt ∧ x1.toInt ≤ 16383 ∧ 0 ≤ x2.toInt ∧ x2.toInt ≤ 9) (hI : zI m) : Sf (fun r => ((0 ≤ r.1.toInt) ∧ (r.1.toInt ≤ 1)) ∧ zI r.2 ∧ Fr wX12_canTrail m r.2) (fX12_canTrail x1 x2 m) := by
  have hfu := fuE
  unfold fX12_canTrail
  have kc1 := L0
  refine s_eq (fun kh2 => ?_) (fun kh2 => ?_)
  · have kc3 := L1
    exact s_ret ⟨(show (0 ≤ (1 : Int32).toInt) ∧ ((1 : Int32).toInt ≤ 1) by omega), hI, Fr.refl⟩
  · refine s_bd (zX12_parts x1 m (show 0 ≤ x1.toInt ∧ x1.toInt ≤ 16383 by omega) hI) (fun m2 kr4 => ?_)
    obtain ⟨kp5, ki6, kf7⟩ := kr4
    have kx8 : 0 ≤ (x2).toInt ∧ (x2).toInt < (10 : Int) := by omega
    refine s_ix kx8 ?_
    have kc9 : 0 ≤ (m2.1 94 (x2).toNatClampNeg).toInt ∧ (m2.1 94 (x2).toNatClampNeg).toInt ≤ 9 := ki6.1 94 (x2).toNatClampNeg
    refine s_bd (zX12_partOfHedges (m2.1 94 (x2).toNatClampNeg) x1 m2 (show 0 ≤ (m2.1 94 (x2).toNatClampNeg).toInt ∧ (m2.1 94 (x2).toNatClampNeg).toInt ≤ 9 ∧ 0 ≤ x1.toInt ∧ x1.toInt ≤ 16383 by omega) ki6) (fun r5 kr10 => ?_)
    replace kr10 : (0 ≤ r5.toInt) ∧ (r5.toInt ≤ 16383) := kr10
    refine s_eq (fun kh11 => ?_) (fun kh11 => ?_)
    · refine s_bd (zX12_oddOf x1 m2 (show 0 ≤ x1.toInt ∧ x1.toInt ≤ 16383 by omega) ki6) (fun r7 kr12 => ?_)
      replace kr12 : (0 ≤ r7.toInt) ∧ (r7.toInt ≤ 1023) := kr12
      refine s_eq (fun kh13 => ?_) (fun kh13 => ?_)
      · have kc14 := L1
        have kf15 : Fr wX12_canTrail m m2 := Fr.trans Fr.refl kf7 rfl
        exact s_ret ⟨(show (0 ≤ (1 : Int32).toInt) ∧ ((1 : Int32).toInt ≤ 1) by omega), ki6, kf15⟩
      · refine s_bd (zJ6_bitCount_0f7a4 r7 m2 (show 0 ≤ r7.toInt ∧ r7.toInt ≤ 16383 by omega) ki6) (fun r9 kr16 => ?_)
        replace kr16 : (0 ≤ r9.toInt) ∧ (r9.toInt ≤ 63) := kr16
        have kc17 := L2
        refine s_eq (fun kh18 => ?_) (fun kh18 => ?_)
        · refine s_bd (zX12_has r7 x2 m2 (show 0 ≤ r7.toInt ∧ r7.toInt ≤ 16383 ∧ 0 ≤ x2.toInt ∧ x2.toInt ≤ 13 by omega) ki6) (fun r11 kr19 => ?_)
          replace kr19 : (0 ≤ r11.toInt) ∧ (r11.toInt ≤ 1) := kr19
          refine s_eq (fun kh20 => ?_) (fun kh20 => ?_)
          · have kf21 : Fr wX12_canTrail m m2 := Fr.trans Fr.refl kf7 rfl
            exact s_ret ⟨(show (0 ≤ (0 : Int32).toInt) ∧ ((0 : Int32).toInt ≤ 1) by omega), ki6, kf21⟩
          · have kc22 := L1
            have kf23 : Fr wX12_canTrail m m2 := Fr.trans Fr.refl kf7 rfl
            exact s_ret ⟨(show (0 ≤ (1 : Int32).toInt) ∧ ((1 : Int32).toInt ≤ 1) by omega), ki6, kf23⟩
        · have kf24 : Fr wX12_canTrail m m2 := Fr.trans Fr.refl kf7 rfl
          exact s_ret ⟨(show (0 ≤ (0 : Int32).toInt) ∧ ((0 : Int32).toInt ≤ 1) by omega), ki6, kf24⟩
    · have kf25 : Fr wX12_canTrail m m2 := Fr.trans Fr.refl kf7 rfl
      exact s_ret ⟨(show (0 ≤ (0 : Int32).toInt) ∧ ((0 : Int32).toInt ≤ 1) by omega), ki6, kf25⟩
theorem zX12_hangTogether_12 (m0 : sm_S) : ∀ (n : Nat) (v1 : Int32) (v2 : Int32) (m : sm_S), (0 ≤ v1.toInt ∧ v1.toInt ≤ 1 ∧ 1 ≤ v2.toInt ∧ v2.toInt ≤ 14 ∧ 14 - v2.toInt < (n : Int)) → zI m → Fr wX12_hangTogether m0 m → Sf (fun r => ((0 ≤ r.1.toInt) ∧ (r.1.toInt ≤ 1)) ∧ zI r.2 ∧ Fr wX12_hangTogether m0 r.2) (fX12_hangTogether_12 n v1 v2 m) := by
  intro n
  induction n with
  | zero =>
    intro v1 v2 m hp hI hF
    exfalso
    omega
  | succ n ih =>
    intro v1 v2 m hp hI hF
    have hnn : ((n + 1 : Nat) : Int) = (n : Int) + 1 := by omega
    have hfu := fuE
    unfold fX12_hangTogether_12
    have kc1 : 0 ≤ (m.1 72 6).toInt ∧ (m.1 72 6).toInt ≤ 14 := hI.1 72 6
    have kc2 : 0 ≤ (m.1 72 25).toInt ∧ (m.1 72 25).toInt ≤ 14 := hI.1 72 25
    have kc3 := zI.le hI
    refine s_le (fun kh4 => ?_) (fun kh4 => ?_)
    · refine s_nb (show (v1).toInt = 0 ∨ (v1).toInt = 1 by omega) ?_
      exact s_ret ⟨(show (0 ≤ v1.toInt) ∧ (v1.toInt ≤ 1) by omega), hI, hF⟩
    · have kc5 := L0
      refine s_eq (fun kh6 => ?_) (fun kh6 => ?_)
      · have kc7 : (v2 + (1 : Int32)).toInt = (v2).toInt + 1 := a_addl L1 (by omega) (by omega)
        exact ih (0 : Int32) (v2 + (1 : Int32)) m (show 0 ≤ (0 : Int32).toInt ∧ (0 : Int32).toInt ≤ 1 ∧ 1 ≤ (v2 + (1 : Int32)).toInt ∧ (v2 + (1 : Int32)).toInt ≤ 14 ∧ 14 - (v2 + (1 : Int32)).toInt < (n : Int) by omega) hI hF
      · have kx8 : 0 ≤ (v2).toInt ∧ (v2).toInt < (14 : Int) := by omega
        refine s_ix kx8 ?_
        have kc9 : (-1 : Int) ≤ (m.1 76 (v2).toNatClampNeg).toInt ∧ (m.1 76 (v2).toNatClampNeg).toInt ≤ 9 := hI.1 76 (v2).toNatClampNeg
        have kc10 : 0 ≤ (m.1 76 (v2).toNatClampNeg).toInt := zI.pf76 hI v2 (by omega) (by omega)
        have kx11 : 0 ≤ ((m.1 76 (v2).toNatClampNeg)).toInt ∧ ((m.1 76 (v2).toNatClampNeg)).toInt < (10 : Int) := by omega
        refine s_ix kx11 ?_
        have kc12 : (-1 : Int) ≤ (m.1 76 0).toInt ∧ (m.1 76 0).toInt ≤ 9 := hI.1 76 0
        have kc13 : 0 ≤ (m.1 76 0).toInt := zI.pf76l hI 0 (by omega)
        have kx14 : 0 ≤ ((m.1 76 0)).toInt ∧ ((m.1 76 0)).toInt < (10 : Int) := by omega
        refine s_ix kx14 ?_
        have kc15 : 0 ≤ (m.1 94 ((m.1 76 (v2).toNatClampNeg)).toNatClampNeg).toInt ∧ (m.1 94 ((m.1 76 (v2).toNatClampNeg)).toNatClampNeg).toInt ≤ 9 := hI.1 94 ((m.1 76 (v2).toNatClampNeg)).toNatClampNeg
        have kc16 : 0 ≤ (m.1 94 ((m.1 76 0)).toNatClampNeg).toInt ∧ (m.1 94 ((m.1 76 0)).toNatClampNeg).toInt ≤ 9 := hI.1 94 ((m.1 76 0)).toNatClampNeg
        refine s_eq (fun kh17 => ?_) (fun kh17 => ?_)
        · have kc18 := L1
          have kc19 : (v2 + (1 : Int32)).toInt = (v2).toInt + 1 := a_addl L1 (by omega) (by omega)
          exact ih (1 : Int32) (v2 + (1 : Int32)) m (show 0 ≤ (1 : Int32).toInt ∧ (1 : Int32).toInt ≤ 1 ∧ 1 ≤ (v2 + (1 : Int32)).toInt ∧ (v2 + (1 : Int32)).toInt ≤ 14 ∧ 14 - (v2 + (1 : Int32)).toInt < (n : Int) by omega) hI hF
        · have kc20 : (v2 + (1 : Int32)).toInt = (v2).toInt + 1 := a_addl L1 (by omega) (by omega)
          exact ih (0 : Int32) (v2 + (1 : Int32)) m (show 0 ≤ (0 : Int32).toInt ∧ (0 : Int32).toInt ≤ 1 ∧ 1 ≤ (v2 + (1 : Int32)).toInt ∧ (v2 + (1 : Int32)).toInt ≤ 14 ∧ 14 - (v2 + (1 : Int32)).toInt < (n : Int) by omega) hI hF
theorem zX12_hangTogether (m : sm_S) (hI : zI m) : Sf (fun r => ((0 ≤ r.1.toInt) ∧ (r.1.toInt ≤ 1)) ∧ zI r.2 ∧ Fr wX12_hangTogether m r.2) (fX12_hangTogether m) := by
  have hfu := fuE
  unfold fX12_hangTogether
  refine s_bd (zX12_allHedges m hI) (fun r2 kr1 => ?_)
  replace kr1 : (0 ≤ r2.toInt) ∧ (r2.toInt ≤ 16383) := kr1
  refine s_bd (zX12_parts r2 m (show 0 ≤ r2.toInt ∧ r2.toInt ≤ 16383 by omega) hI) (fun m4 kr2 => ?_)
  obtain ⟨kp3, ki4, kf5⟩ := kr2
  have kc6 := L1
  have kf7 : Fr wX12_hangTogether m m4 := Fr.trans Fr.refl kf5 rfl
  exact zX12_hangTogether_12 m sm_fu (1 : Int32) (1 : Int32) m4 (show 0 ≤ (1 : Int32).toInt ∧ (1 : Int32).toInt ≤ 1 ∧ 1 ≤ (1 : Int32).toInt ∧ (1 : Int32).toInt ≤ 14 ∧ 14 - (1 : Int32).toInt < (sm_fu : Int) by omega) ki4 kf7
theorem zX12_isEven_87 (m0 : sm_S) : ∀ (n : Nat) (v2 : Int32) (v3 : Int32) (m : sm_S), (0 ≤ v2.toInt ∧ v2.toInt ≤ 1 ∧ 0 ≤ v3.toInt ∧ v3.toInt ≤ 10 ∧ 10 - v3.toInt < (n : Int)) → zI m → Fr wX12_isEven m0 m → Sf (fun r => ((0 ≤ r.1.toInt) ∧ (r.1.toInt ≤ 1)) ∧ zI r.2 ∧ Fr wX12_isEven m0 r.2) (fX12_isEven_87 n v2 v3 m) := by
  intro n
  induction n with
  | zero =>
    intro v2 v3 m hp hI hF
    exfalso
    omega
  | succ n ih =>
    intro v2 v3 m hp hI hF
    have hnn : ((n + 1 : Nat) : Int) = (n : Int) + 1 := by omega
    have hfu := fuE
    unfold fX12_isEven_87
    have kc1 : 0 ≤ (m.1 72 3).toInt ∧ (m.1 72 3).toInt ≤ 10 := hI.1 72 3
    refine s_le (fun kh2 => ?_) (fun kh2 => ?_)
    · refine s_nb (show (v2).toInt = 0 ∨ (v2).toInt = 1 by omega) ?_
      exact s_ret ⟨(show (0 ≤ v2.toInt) ∧ (v2.toInt ≤ 1) by omega), hI, hF⟩
    · have kc3 := L0
      refine s_eq (fun kh4 => ?_) (fun kh4 => ?_)
      · have kc5 : (v3 + (1 : Int32)).toInt = (v3).toInt + 1 := a_addl L1 (by omega) (by omega)
        exact ih (0 : Int32) (v3 + (1 : Int32)) m (show 0 ≤ (0 : Int32).toInt ∧ (0 : Int32).toInt ≤ 1 ∧ 0 ≤ (v3 + (1 : Int32)).toInt ∧ (v3 + (1 : Int32)).toInt ≤ 10 ∧ 10 - (v3 + (1 : Int32)).toInt < (n : Int) by omega) hI hF
      · have kx6 : 0 ≤ (v3).toInt ∧ (v3).toInt < (10 : Int) := by omega
        refine s_ix kx6 ?_
        refine s_eq (fun kh7 => ?_) (fun kh7 => ?_)
        · have kc8 := L1
          have kc9 : (v3 + (1 : Int32)).toInt = (v3).toInt + 1 := a_addl L1 (by omega) (by omega)
          exact ih (1 : Int32) (v3 + (1 : Int32)) m (show 0 ≤ (1 : Int32).toInt ∧ (1 : Int32).toInt ≤ 1 ∧ 0 ≤ (v3 + (1 : Int32)).toInt ∧ (v3 + (1 : Int32)).toInt ≤ 10 ∧ 10 - (v3 + (1 : Int32)).toInt < (n : Int) by omega) hI hF
        · have kc10 : (v3 + (1 : Int32)).toInt = (v3).toInt + 1 := a_addl L1 (by omega) (by omega)
          exact ih (0 : Int32) (v3 + (1 : Int32)) m (show 0 ≤ (0 : Int32).toInt ∧ (0 : Int32).toInt ≤ 1 ∧ 0 ≤ (v3 + (1 : Int32)).toInt ∧ (v3 + (1 : Int32)).toInt ≤ 10 ∧ 10 - (v3 + (1 : Int32)).toInt < (n : Int) by omega) hI hF
theorem zX12_isEven_25 (m0 : sm_S) : ∀ (n : Nat) (v1 : Int32) (v2 : Int32) (m : sm_S), (0 ≤ v1.toInt ∧ v1.toInt ≤ 16383 ∧ 0 ≤ v2.toInt ∧ v2.toInt ≤ 14 ∧ 14 - v2.toInt < (n : Int)) → zI m → Fr wX12_isEven m0 m → Sf (fun r => ((0 ≤ r.1.toInt) ∧ (r.1.toInt ≤ 1)) ∧ zI r.2 ∧ Fr wX12_isEven m0 r.2) (fX12_isEven_25 n v1 v2 m) := by
  intro n
  induction n with
  | zero =>
    intro v1 v2 m hp hI hF
    exfalso
    omega
  | succ n ih =>
    intro v1 v2 m hp hI hF
    have hnn : ((n + 1 : Nat) : Int) = (n : Int) + 1 := by omega
    have hfu := fuE
    unfold fX12_isEven_25
    simp only [a_m1, a_m8]
    have kc1 : 0 ≤ (m.1 72 6).toInt ∧ (m.1 72 6).toInt ≤ 14 := hI.1 72 6
    have kc2 : 0 ≤ (m.1 72 25).toInt ∧ (m.1 72 25).toInt ≤ 14 := hI.1 72 25
    have kc3 := zI.le hI
    refine s_le (fun kh4 => ?_) (fun kh4 => ?_)
    · have kc5 := L1
      have kc6 := L0
      exact zX12_isEven_87 m0 sm_fu (1 : Int32) (0 : Int32) m (show 0 ≤ (1 : Int32).toInt ∧ (1 : Int32).toInt ≤ 1 ∧ 0 ≤ (0 : Int32).toInt ∧ (0 : Int32).toInt ≤ 10 ∧ 10 - (0 : Int32).toInt < (sm_fu : Int) by omega) hI hF
    · refine s_bd (zX12_has v1 v2 m (show 0 ≤ v1.toInt ∧ v1.toInt ≤ 16383 ∧ 0 ≤ v2.toInt ∧ v2.toInt ≤ 13 by omega) hI) (fun r4 kr7 => ?_)
      replace kr7 : (0 ≤ r4.toInt) ∧ (r4.toInt ≤ 1) := kr7
      have kc8 := L0
      refine s_eq (fun kh9 => ?_) (fun kh9 => ?_)
      · have kx10 : 0 ≤ (v2).toInt ∧ (v2).toInt < (14 : Int) := by omega
        refine s_ix kx10 ?_
        have kc11 : (-1 : Int) ≤ (m.1 76 (v2).toNatClampNeg).toInt ∧ (m.1 76 (v2).toNatClampNeg).toInt ≤ 9 := hI.1 76 (v2).toNatClampNeg
        have kc12 : 0 ≤ (m.1 76 (v2).toNatClampNeg).toInt := zI.pf76 hI v2 (by omega) (by omega)
        have kx13 : 0 ≤ ((m.1 76 (v2).toNatClampNeg)).toInt ∧ ((m.1 76 (v2).toNatClampNeg)).toInt < (10 : Int) := by omega
        refine s_ix kx13 ?_
        refine s_ix kx13 ?_
        refine s_ix kx10 ?_
        have kc14 : (-1 : Int) ≤ (m.1 77 (v2).toNatClampNeg).toInt ∧ (m.1 77 (v2).toNatClampNeg).toInt ≤ 9 := hI.1 77 (v2).toNatClampNeg
        have kc15 : 0 ≤ (m.1 77 (v2).toNatClampNeg).toInt := zI.pf77 hI v2 (by omega) (by omega)
        have kx16 : 0 ≤ ((m.1 77 (v2).toNatClampNeg)).toInt ∧ ((m.1 77 (v2).toNatClampNeg)).toInt < (10 : Int) := by omega
        refine s_ix kx16 ?_
        refine s_ix kx16 ?_
        have kc17 : (v2 + (1 : Int32)).toInt = (v2).toInt + 1 := a_addl L1 (by omega) (by omega)
        have ki18 : zI (sm_w1 m 95 ((m.1 76 (v2).toNatClampNeg)).toNatClampNeg ((m.1 95 ((m.1 76 (v2).toNatClampNeg)).toNatClampNeg) - (1 : Int32))) := zI.w hI rfl (rg _)
        have ki19 : zI (sm_w1 (sm_w1 m 95 ((m.1 76 (v2).toNatClampNeg)).toNatClampNeg ((m.1 95 ((m.1 76 (v2).toNatClampNeg)).toNatClampNeg) - (1 : Int32))) 95 ((m.1 77 (v2).toNatClampNeg)).toNatClampNeg (((sm_w1 m 95 ((m.1 76 (v2).toNatClampNeg)).toNatClampNeg ((m.1 95 ((m.1 76 (v2).toNatClampNeg)).toNatClampNeg) - (1 : Int32))).1 95 ((m.1 77 (v2).toNatClampNeg)).toNatClampNeg) + (1 : Int32))) := zI.w ki18 rfl (rg _)
        have kf20 : Fr wX12_isEven m0 (sm_w1 m 95 ((m.1 76 (v2).toNatClampNeg)).toNatClampNeg ((m.1 95 ((m.1 76 (v2).toNatClampNeg)).toNatClampNeg) - (1 : Int32))) := Fr.w hF rfl
        have kf21 : Fr wX12_isEven m0 (sm_w1 (sm_w1 m 95 ((m.1 76 (v2).toNatClampNeg)).toNatClampNeg ((m.1 95 ((m.1 76 (v2).toNatClampNeg)).toNatClampNeg) - (1 : Int32))) 95 ((m.1 77 (v2).toNatClampNeg)).toNatClampNeg (((sm_w1 m 95 ((m.1 76 (v2).toNatClampNeg)).toNatClampNeg ((m.1 95 ((m.1 76 (v2).toNatClampNeg)).toNatClampNeg) - (1 : Int32))).1 95 ((m.1 77 (v2).toNatClampNeg)).toNatClampNeg) + (1 : Int32))) := Fr.w kf20 rfl
        exact ih v1 (v2 + (1 : Int32)) (sm_w1 (sm_w1 m 95 ((m.1 76 (v2).toNatClampNeg)).toNatClampNeg ((m.1 95 ((m.1 76 (v2).toNatClampNeg)).toNatClampNeg) - (1 : Int32))) 95 ((m.1 77 (v2).toNatClampNeg)).toNatClampNeg (((sm_w1 m 95 ((m.1 76 (v2).toNatClampNeg)).toNatClampNeg ((m.1 95 ((m.1 76 (v2).toNatClampNeg)).toNatClampNeg) - (1 : Int32))).1 95 ((m.1 77 (v2).toNatClampNeg)).toNatClampNeg) + (1 : Int32))) (show 0 ≤ v1.toInt ∧ v1.toInt ≤ 16383 ∧ 0 ≤ (v2 + (1 : Int32)).toInt ∧ (v2 + (1 : Int32)).toInt ≤ 14 ∧ 14 - (v2 + (1 : Int32)).toInt < (n : Int) by omega) ki19 kf21
      · have kx22 : 0 ≤ (v2).toInt ∧ (v2).toInt < (14 : Int) := by omega
        refine s_ix kx22 ?_
        have kc23 : (-1 : Int) ≤ (m.1 76 (v2).toNatClampNeg).toInt ∧ (m.1 76 (v2).toNatClampNeg).toInt ≤ 9 := hI.1 76 (v2).toNatClampNeg
        have kc24 : 0 ≤ (m.1 76 (v2).toNatClampNeg).toInt := zI.pf76 hI v2 (by omega) (by omega)
        have kx25 : 0 ≤ ((m.1 76 (v2).toNatClampNeg)).toInt ∧ ((m.1 76 (v2).toNatClampNeg)).toInt < (10 : Int) := by omega
        refine s_ix kx25 ?_
        refine s_ix kx25 ?_
        refine s_ix kx22 ?_
        have kc26 : (-1 : Int) ≤ (m.1 77 (v2).toNatClampNeg).toInt ∧ (m.1 77 (v2).toNatClampNeg).toInt ≤ 9 := hI.1 77 (v2).toNatClampNeg
        have kc27 : 0 ≤ (m.1 77 (v2).toNatClampNeg).toInt := zI.pf77 hI v2 (by omega) (by omega)
        have kx28 : 0 ≤ ((m.1 77 (v2).toNatClampNeg)).toInt ∧ ((m.1 77 (v2).toNatClampNeg)).toInt < (10 : Int) := by omega
        refine s_ix kx28 ?_
        refine s_ix kx28 ?_
        have kc29 : (v2 + (1 : Int32)).toInt = (v2).toInt + 1 := a_addl L1 (by omega) (by omega)
        have ki30 : zI (sm_w1 m 95 ((m.1 76 (v2).toNatClampNeg)).toNatClampNeg ((m.1 95 ((m.1 76 (v2).toNatClampNeg)).toNatClampNeg) - (-1 : Int32))) := zI.w hI rfl (rg _)
        have ki31 : zI (sm_w1 (sm_w1 m 95 ((m.1 76 (v2).toNatClampNeg)).toNatClampNeg ((m.1 95 ((m.1 76 (v2).toNatClampNeg)).toNatClampNeg) - (-1 : Int32))) 95 ((m.1 77 (v2).toNatClampNeg)).toNatClampNeg (((sm_w1 m 95 ((m.1 76 (v2).toNatClampNeg)).toNatClampNeg ((m.1 95 ((m.1 76 (v2).toNatClampNeg)).toNatClampNeg) - (-1 : Int32))).1 95 ((m.1 77 (v2).toNatClampNeg)).toNatClampNeg) - (1 : Int32))) := zI.w ki30 rfl (rg _)
        have kf32 : Fr wX12_isEven m0 (sm_w1 m 95 ((m.1 76 (v2).toNatClampNeg)).toNatClampNeg ((m.1 95 ((m.1 76 (v2).toNatClampNeg)).toNatClampNeg) - (-1 : Int32))) := Fr.w hF rfl
        have kf33 : Fr wX12_isEven m0 (sm_w1 (sm_w1 m 95 ((m.1 76 (v2).toNatClampNeg)).toNatClampNeg ((m.1 95 ((m.1 76 (v2).toNatClampNeg)).toNatClampNeg) - (-1 : Int32))) 95 ((m.1 77 (v2).toNatClampNeg)).toNatClampNeg (((sm_w1 m 95 ((m.1 76 (v2).toNatClampNeg)).toNatClampNeg ((m.1 95 ((m.1 76 (v2).toNatClampNeg)).toNatClampNeg) - (-1 : Int32))).1 95 ((m.1 77 (v2).toNatClampNeg)).toNatClampNeg) - (1 : Int32))) := Fr.w kf32 rfl
        exact ih v1 (v2 + (1 : Int32)) (sm_w1 (sm_w1 m 95 ((m.1 76 (v2).toNatClampNeg)).toNatClampNeg ((m.1 95 ((m.1 76 (v2).toNatClampNeg)).toNatClampNeg) - (-1 : Int32))) 95 ((m.1 77 (v2).toNatClampNeg)).toNatClampNeg (((sm_w1 m 95 ((m.1 76 (v2).toNatClampNeg)).toNatClampNeg ((m.1 95 ((m.1 76 (v2).toNatClampNeg)).toNatClampNeg) - (-1 : Int32))).1 95 ((m.1 77 (v2).toNatClampNeg)).toNatClampNeg) - (1 : Int32))) (show 0 ≤ v1.toInt ∧ v1.toInt ≤ 16383 ∧ 0 ≤ (v2 + (1 : Int32)).toInt ∧ (v2 + (1 : Int32)).toInt ≤ 14 ∧ 14 - (v2 + (1 : Int32)).toInt < (n : Int) by omega) ki31 kf33
theorem zX12_isEven_2 (m0 : sm_S) : ∀ (n : Nat) (v1 : Int32) (v2 : Int32) (m : sm_S), (0 ≤ v1.toInt ∧ v1.toInt ≤ 16383 ∧ 0 ≤ v2.toInt ∧ v2.toInt ≤ 10 ∧ 10 - v2.toInt < (n : Int)) → zI m → Fr wX12_isEven m0 m → Sf (fun r => ((0 ≤ r.1.toInt) ∧ (r.1.toInt ≤ 1)) ∧ zI r.2 ∧ Fr wX12_isEven m0 r.2) (fX12_isEven_2 n v1 v2 m) := by
  intro n
  induction n with
  | zero =>
    intro v1 v2 m hp hI hF
    exfalso
    omega
  | succ n ih =>
    intro v1 v2 m hp hI hF
    have hnn : ((n + 1 : Nat) : Int) = (n : Int) + 1 := by omega
    have hfu := fuE
    unfold fX12_isEven_2
    have kc1 : 0 ≤ (m.1 72 3).toInt ∧ (m.1 72 3).toInt ≤ 10 := hI.1 72 3
    refine s_le (fun kh2 => ?_) (fun kh2 => ?_)
    · have kc3 := L0
      exact zX12_isEven_25 m0 sm_fu v1 (0 : Int32) m (show 0 ≤ v1.toInt ∧ v1.toInt ≤ 16383 ∧ 0 ≤ (0 : Int32).toInt ∧ (0 : Int32).toInt ≤ 14 ∧ 14 - (0 : Int32).toInt < (sm_fu : Int) by omega) hI hF
    · have kx4 : 0 ≤ (v2).toInt ∧ (v2).toInt < (10 : Int) := by omega
      refine s_ix kx4 ?_
      have kc5 : (v2 + (1 : Int32)).toInt = (v2).toInt + 1 := a_addl L1 (by omega) (by omega)
      have kc6 := L0
      have ki7 : zI (sm_w1 m 95 (v2).toNatClampNeg (0 : Int32)) := zI.w hI rfl (rg _)
      have kf8 : Fr wX12_isEven m0 (sm_w1 m 95 (v2).toNatClampNeg (0 : Int32)) := Fr.w hF rfl
      exact ih v1 (v2 + (1 : Int32)) (sm_w1 m 95 (v2).toNatClampNeg (0 : Int32)) (show 0 ≤ v1.toInt ∧ v1.toInt ≤ 16383 ∧ 0 ≤ (v2 + (1 : Int32)).toInt ∧ (v2 + (1 : Int32)).toInt ≤ 10 ∧ 10 - (v2 + (1 : Int32)).toInt < (n : Int) by omega) ki7 kf8
theorem zX12_isEven (x1 : Int32) (m : sm_S) (hp : 0 ≤ x1.toInt ∧ x1.toInt ≤ 16383) (hI : zI m) : Sf (fun r => ((0 ≤ r.1.toInt) ∧ (r.1.toInt ≤ 1)) ∧ zI r.2 ∧ Fr wX12_isEven m r.2) (fX12_isEven x1 m) := by
  have hfu := fuE
  unfold fX12_isEven
  have kc1 := L0
  exact zX12_isEven_2 m sm_fu x1 (0 : Int32) m (show 0 ≤ x1.toInt ∧ x1.toInt ≤ 16383 ∧ 0 ≤ (0 : Int32).toInt ∧ (0 : Int32).toInt ≤ 10 ∧ 10 - (0 : Int32).toInt < (sm_fu : Int) by omega) hI Fr.refl
theorem zX12_round_35 (m0 : sm_S) (k21 : Int32 → Int32 → Int32 → sm_S → Option (Int32 × sm_S)) (Nk21 : Nat) (hk21 : ∀ (v1 : Int32) (v2 : Int32) (v3 : Int32) (m : sm_S), ((-1 : Int) ≤ v1.toInt ∧ v1.toInt ≤ 16383 ∧ 0 ≤ v3.toInt ∧ v3.toInt ≤ 16384 ∧ 16384 - v3.toInt < (Nk21 : Int)) → zI m → Fr wX12_round m0 m → Sf (fun r => (True) ∧ zI r.2 ∧ Fr wX12_round m0 r.2) (k21 v1 v2 v3 m)) : ∀ (n : Nat) (v1 : Int32) (v2 : Int32) (v3 : Int32) (v4 : Int32) (v5 : Int32) (m : sm_S), ((-1 : Int) ≤ v1.toInt ∧ v1.toInt ≤ 16383 ∧ 0 ≤ v3.toInt ∧ v3.toInt ≤ 16383 ∧ 0 ≤ v5.toInt ∧ v5.toInt ≤ 14 ∧ 14 - v5.toInt < (n : Int) ∧ 16384 - v3.toInt ≤ (Nk21 : Int)) → zI m → Fr wX12_round m0 m → Sf (fun r => (True) ∧ zI r.2 ∧ Fr wX12_round m0 r.2) (fX12_round_35 k21 n v1 v2 v3 v4 v5 m) := by
  intro n
  induction n with
  | zero =>
    intro v1 v2 v3 v4 v5 m hp hI hF
    exfalso
    omega
  | succ n ih =>
    intro v1 v2 v3 v4 v5 m hp hI hF
    have hnn : ((n + 1 : Nat) : Int) = (n : Int) + 1 := by omega
    have hfu := fuE
    unfold fX12_round_35
    have kc1 : 0 ≤ (m.1 72 6).toInt ∧ (m.1 72 6).toInt ≤ 14 := hI.1 72 6
    have kc2 : 0 ≤ (m.1 72 25).toInt ∧ (m.1 72 25).toInt ≤ 14 := hI.1 72 25
    have kc3 := zI.le hI
    refine s_le (fun kh4 => ?_) (fun kh4 => ?_)
    · have kc5 := L0
      refine s_lt (fun kh6 => ?_) (fun kh6 => ?_)
      · refine s_bd (zX12_isEven v3 m (show 0 ≤ v3.toInt ∧ v3.toInt ≤ 16383 by omega) hI) (fun r8 kr7 => ?_)
        obtain ⟨kp8, ki9, kf10⟩ := kr7
        replace kp8 : (0 ≤ r8.1.toInt) ∧ (r8.1.toInt ≤ 1) := kp8
        refine s_eq (fun kh11 => ?_) (fun kh11 => ?_)
        · have kc12 : (v3 + (1 : Int32)).toInt = (v3).toInt + 1 := a_addl L1 (by omega) (by omega)
          have kf13 : Fr wX12_round m0 r8.2 := Fr.trans hF kf10 rfl
          exact hk21 v1 v2 (v3 + (1 : Int32)) r8.2 (show (-1 : Int) ≤ v1.toInt ∧ v1.toInt ≤ 16383 ∧ 0 ≤ (v3 + (1 : Int32)).toInt ∧ (v3 + (1 : Int32)).toInt ≤ 16384 ∧ 16384 - (v3 + (1 : Int32)).toInt < (Nk21 : Int) by omega) ki9 kf13
        · have kc14 : (v3 + (1 : Int32)).toInt = (v3).toInt + 1 := a_addl L1 (by omega) (by omega)
          have kf15 : Fr wX12_round m0 r8.2 := Fr.trans hF kf10 rfl
          exact hk21 v3 v4 (v3 + (1 : Int32)) r8.2 (show (-1 : Int) ≤ v3.toInt ∧ v3.toInt ≤ 16383 ∧ 0 ≤ (v3 + (1 : Int32)).toInt ∧ (v3 + (1 : Int32)).toInt ≤ 16384 ∧ 16384 - (v3 + (1 : Int32)).toInt < (Nk21 : Int) by omega) ki9 kf15
      · refine s_le (fun kh16 => ?_) (fun kh16 => ?_)
        · have kc17 : (v3 + (1 : Int32)).toInt = (v3).toInt + 1 := a_addl L1 (by omega) (by omega)
          exact hk21 v1 v2 (v3 + (1 : Int32)) m (show (-1 : Int) ≤ v1.toInt ∧ v1.toInt ≤ 16383 ∧ 0 ≤ (v3 + (1 : Int32)).toInt ∧ (v3 + (1 : Int32)).toInt ≤ 16384 ∧ 16384 - (v3 + (1 : Int32)).toInt < (Nk21 : Int) by omega) hI hF
        · refine s_bd (zX12_isEven v3 m (show 0 ≤ v3.toInt ∧ v3.toInt ≤ 16383 by omega) hI) (fun r10 kr18 => ?_)
          obtain ⟨kp19, ki20, kf21⟩ := kr18
          replace kp19 : (0 ≤ r10.1.toInt) ∧ (r10.1.toInt ≤ 1) := kp19
          refine s_eq (fun kh22 => ?_) (fun kh22 => ?_)
          · have kc23 : (v3 + (1 : Int32)).toInt = (v3).toInt + 1 := a_addl L1 (by omega) (by omega)
            have kf24 : Fr wX12_round m0 r10.2 := Fr.trans hF kf21 rfl
            exact hk21 v1 v2 (v3 + (1 : Int32)) r10.2 (show (-1 : Int) ≤ v1.toInt ∧ v1.toInt ≤ 16383 ∧ 0 ≤ (v3 + (1 : Int32)).toInt ∧ (v3 + (1 : Int32)).toInt ≤ 16384 ∧ 16384 - (v3 + (1 : Int32)).toInt < (Nk21 : Int) by omega) ki20 kf24
          · have kc25 : (v3 + (1 : Int32)).toInt = (v3).toInt + 1 := a_addl L1 (by omega) (by omega)
            have kf26 : Fr wX12_round m0 r10.2 := Fr.trans hF kf21 rfl
            exact hk21 v3 v4 (v3 + (1 : Int32)) r10.2 (show (-1 : Int) ≤ v3.toInt ∧ v3.toInt ≤ 16383 ∧ 0 ≤ (v3 + (1 : Int32)).toInt ∧ (v3 + (1 : Int32)).toInt ≤ 16384 ∧ 16384 - (v3 + (1 : Int32)).toInt < (Nk21 : Int) by omega) ki20 kf26
    · have kx27 : 0 ≤ (v5).toInt ∧ (v5).toInt < (14 : Int) := by omega
      refine s_ix kx27 ?_
      refine s_bd (zX12_has v3 v5 m (show 0 ≤ v3.toInt ∧ v3.toInt ≤ 16383 ∧ 0 ≤ v5.toInt ∧ v5.toInt ≤ 13 by omega) hI) (fun r13 kr28 => ?_)
      replace kr28 : (0 ≤ r13.toInt) ∧ (r13.toInt ≤ 1) := kr28
      have kc29 := L0
      refine s_eq (fun kh30 => ?_) (fun kh30 => ?_)
      · have kc31 : (-1 : Int) ≤ (m.1 78 (v5).toNatClampNeg).toInt ∧ (m.1 78 (v5).toNatClampNeg).toInt ≤ 20 := hI.1 78 (v5).toNatClampNeg
        have kc32 : 1 ≤ (m.1 78 (v5).toNatClampNeg).toInt := zI.pf78 hI v5 (by omega) (by omega)
        have kc33 : ((m.1 78 (v5).toNatClampNeg) + (0 : Int32)).toInt = ((m.1 78 (v5).toNatClampNeg)).toInt + 0 := a_addl L0 (by omega) (by omega)
        have kc34 : (v5 + (1 : Int32)).toInt = (v5).toInt + 1 := a_addl L1 (by omega) (by omega)
        exact ih v1 v2 v3 (v4 + ((m.1 78 (v5).toNatClampNeg) + (0 : Int32))) (v5 + (1 : Int32)) m (show (-1 : Int) ≤ v1.toInt ∧ v1.toInt ≤ 16383 ∧ 0 ≤ v3.toInt ∧ v3.toInt ≤ 16383 ∧ 0 ≤ (v5 + (1 : Int32)).toInt ∧ (v5 + (1 : Int32)).toInt ≤ 14 ∧ 14 - (v5 + (1 : Int32)).toInt < (n : Int) ∧ 16384 - v3.toInt ≤ (Nk21 : Int) by omega) hI hF
      · refine s_ix kx27 ?_
        have kc35 : (-1 : Int) ≤ (m.1 78 (v5).toNatClampNeg).toInt ∧ (m.1 78 (v5).toNatClampNeg).toInt ≤ 20 := hI.1 78 (v5).toNatClampNeg
        have kc36 : 1 ≤ (m.1 78 (v5).toNatClampNeg).toInt := zI.pf78 hI v5 (by omega) (by omega)
        have kc37 : (-1 : Int) ≤ (m.1 82 (v5).toNatClampNeg).toInt ∧ (m.1 82 (v5).toNatClampNeg).toInt ≤ 9 := hI.1 82 (v5).toNatClampNeg
        have kc38 : 0 ≤ (m.1 82 (v5).toNatClampNeg).toInt := zI.pf82 hI v5 (by omega) (by omega)
        have kc39 : ((m.1 78 (v5).toNatClampNeg) + (m.1 82 (v5).toNatClampNeg)).toInt = ((m.1 78 (v5).toNatClampNeg)).toInt + ((m.1 82 (v5).toNatClampNeg)).toInt := a_add (by omega) (by omega)
        have kc40 : (v5 + (1 : Int32)).toInt = (v5).toInt + 1 := a_addl L1 (by omega) (by omega)
        exact ih v1 v2 v3 (v4 + ((m.1 78 (v5).toNatClampNeg) + (m.1 82 (v5).toNatClampNeg))) (v5 + (1 : Int32)) m (show (-1 : Int) ≤ v1.toInt ∧ v1.toInt ≤ 16383 ∧ 0 ≤ v3.toInt ∧ v3.toInt ≤ 16383 ∧ 0 ≤ (v5 + (1 : Int32)).toInt ∧ (v5 + (1 : Int32)).toInt ≤ 14 ∧ 14 - (v5 + (1 : Int32)).toInt < (n : Int) ∧ 16384 - v3.toInt ≤ (Nk21 : Int) by omega) hI hF
theorem zX12_round_21 (m0 : sm_S) : ∀ (n : Nat) (v1 : Int32) (v2 : Int32) (v3 : Int32) (m : sm_S), ((-1 : Int) ≤ v1.toInt ∧ v1.toInt ≤ 16383 ∧ 0 ≤ v3.toInt ∧ v3.toInt ≤ 16384 ∧ 16384 - v3.toInt < (n : Int)) → zI m → Fr wX12_round m0 m → Sf (fun r => (True) ∧ zI r.2 ∧ Fr wX12_round m0 r.2) (fX12_round_21 n v1 v2 v3 m) := by
  intro n
  induction n with
  | zero =>
    intro v1 v2 v3 m hp hI hF
    exfalso
    omega
  | succ n ih =>
    intro v1 v2 v3 m hp hI hF
    have hnn : ((n + 1 : Nat) : Int) = (n : Int) + 1 := by omega
    have hfu := fuE
    unfold fX12_round_21
    refine s_bd (zX12_allHedges m hI) (fun r4 kr1 => ?_)
    replace kr1 : (0 ≤ r4.toInt) ∧ (r4.toInt ≤ 16383) := kr1
    refine s_lt (fun kh2 => ?_) (fun kh2 => ?_)
    · have kc3 := L0
      refine s_le (fun kh4 => ?_) (fun kh4 => ?_)
      · have ki5 : zI (sm_w1 m 72 1 (0 : Int32)) := zI.w hI rfl (show 0 ≤ ((0 : Int32)).toInt ∧ ((0 : Int32)).toInt ≤ 24 by omega)
        have kc6 : 0 ≤ ((sm_w1 m 72 1 (0 : Int32)).1 72 1).toInt ∧ ((sm_w1 m 72 1 (0 : Int32)).1 72 1).toInt ≤ 24 := ki5.1 72 1
        have kc7 : ((sm_w1 m 72 1 (0 : Int32)).1 72 1).toInt = ((0 : Int32)).toInt := rfl
        refine s_bd (zX12_enters v1 (sm_w1 m 72 1 (0 : Int32)) (show ((sm_w1 m 72 1 (0 : Int32)).1 72 1).toInt ≤ 23 by omega) ki5) (fun m6 kr8 => ?_)
        obtain ⟨kp9, ki10, kf11⟩ := kr8
        replace kp9 : ((m6.1 72 1).toInt = ((sm_w1 m 72 1 (0 : Int32)).1 72 1).toInt + 1) := kp9
        have kc12 : 0 ≤ (m6.1 72 1).toInt ∧ (m6.1 72 1).toInt ≤ 24 := ki10.1 72 1
        have kf13 : Fr wX12_round m0 (sm_w1 m 72 1 (0 : Int32)) := Fr.w hF rfl
        have kf14 : Fr wX12_round m0 m6 := Fr.trans kf13 kf11 rfl
        exact s_ret ⟨trivial, ki10, kf14⟩
      · have kc15 := Ln2
        exact s_ret ⟨trivial, hI, hF⟩
    · have kc16 := L0
      exact zX12_round_35 m0 (fX12_round_21 n) n ih sm_fu v1 v2 v3 (0 : Int32) (0 : Int32) m (show (-1 : Int) ≤ v1.toInt ∧ v1.toInt ≤ 16383 ∧ 0 ≤ v3.toInt ∧ v3.toInt ≤ 16383 ∧ 0 ≤ (0 : Int32).toInt ∧ (0 : Int32).toInt ≤ 14 ∧ 14 - (0 : Int32).toInt < (sm_fu : Int) ∧ 16384 - v3.toInt ≤ (n : Int) by omega) hI hF
theorem zX12_round (m : sm_S) (hI : zI m) : Sf (fun r => (True) ∧ zI r.2 ∧ Fr wX12_round m r.2) (fX12_round m) := by
  have hfu := fuE
  unfold fX12_round
  have kc1 := L0
  have ki2 : zI (sm_w1 m 72 0 (0 : Int32)) := zI.w hI rfl (show 0 ≤ ((0 : Int32)).toInt ∧ ((0 : Int32)).toInt ≤ 1 by omega)
  refine s_bd (zX12_hangTogether (sm_w1 m 72 0 (0 : Int32)) ki2) (fun r2 kr3 => ?_)
  obtain ⟨kp4, ki5, kf6⟩ := kr3
  replace kp4 : (0 ≤ r2.1.toInt) ∧ (r2.1.toInt ≤ 1) := kp4
  refine s_eq (fun kh7 => ?_) (fun kh7 => ?_)
  · have kc8 := Ln2
    have kf9 : Fr wX12_round m (sm_w1 m 72 0 (0 : Int32)) := Fr.w Fr.refl rfl
    have kf10 : Fr wX12_round m r2.2 := Fr.trans kf9 kf6 rfl
    exact s_ret ⟨trivial, ki5, kf10⟩
  · have kc11 := Ln1
    have kf12 : Fr wX12_round m (sm_w1 m 72 0 (0 : Int32)) := Fr.w Fr.refl rfl
    have kf13 : Fr wX12_round m r2.2 := Fr.trans kf12 kf6 rfl
    exact zX12_round_21 m sm_fu (-1 : Int32) (0 : Int32) (0 : Int32) r2.2 (show (-1 : Int) ≤ (-1 : Int32).toInt ∧ (-1 : Int32).toInt ≤ 16383 ∧ 0 ≤ (0 : Int32).toInt ∧ (0 : Int32).toInt ≤ 16384 ∧ 16384 - (0 : Int32).toInt < (sm_fu : Int) by omega) ki5 kf13
theorem zX12_isLessRow_2 : ∀ (n : Nat) (v1 : Int32) (m : sm_S), (0 ≤ v1.toInt ∧ v1.toInt ≤ 10 ∧ 10 - v1.toInt < (n : Int)) → zI m → Sf (fun r => (0 ≤ r.toInt) ∧ (r.toInt ≤ 1)) (fX12_isLessRow_2 n v1 m) := by
  intro n
  induction n with
  | zero =>
    intro v1 m hp hI
    exfalso
    omega
  | succ n ih =>
    intro v1 m hp hI
    have hnn : ((n + 1 : Nat) : Int) = (n : Int) + 1 := by omega
    have hfu := fuE
    unfold fX12_isLessRow_2
    have kc1 : 0 ≤ (m.1 72 42).toInt ∧ (m.1 72 42).toInt ≤ 10 := hI.1 72 42
    refine s_le (fun kh2 => ?_) (fun kh2 => ?_)
    · have kc3 := L0
      exact s_ret (show (0 ≤ (0 : Int32).toInt) ∧ ((0 : Int32).toInt ≤ 1) by omega)
    · have kx4 : 0 ≤ (v1).toInt ∧ (v1).toInt < (10 : Int) := by omega
      refine s_ix kx4 ?_
      refine s_ix kx4 ?_
      refine s_eq (fun kh5 => ?_) (fun kh5 => ?_)
      · have kc6 : (v1 + (1 : Int32)).toInt = (v1).toInt + 1 := a_addl L1 (by omega) (by omega)
        exact ih (v1 + (1 : Int32)) m (show 0 ≤ (v1 + (1 : Int32)).toInt ∧ (v1 + (1 : Int32)).toInt ≤ 10 ∧ 10 - (v1 + (1 : Int32)).toInt < (n : Int) by omega) hI
      · refine s_ix kx4 ?_
        refine s_ix kx4 ?_
        refine s_le (fun kh7 => ?_) (fun kh7 => ?_)
        · have kc8 := L0
          exact s_ret (show (0 ≤ (0 : Int32).toInt) ∧ ((0 : Int32).toInt ≤ 1) by omega)
        · have kc9 := L1
          exact s_ret (show (0 ≤ (1 : Int32).toInt) ∧ ((1 : Int32).toInt ≤ 1) by omega)
theorem zX12_isLessRow (m : sm_S) (hI : zI m) : Sf (fun r => (0 ≤ r.toInt) ∧ (r.toInt ≤ 1)) (fX12_isLessRow m) := by
  have hfu := fuE
  unfold fX12_isLessRow
  have kc1 := L0
  exact zX12_isLessRow_2 sm_fu (0 : Int32) m (show 0 ≤ (0 : Int32).toInt ∧ (0 : Int32).toInt ≤ 10 ∧ 10 - (0 : Int32).toInt < (sm_fu : Int) by omega) hI
theorem ntz_ok : ∀ n, n < 1024 → n ≠ 0 → (match fJ6_numberOfTrailingZeros_0f7a4 (nI n) (fun _ _ => 0, fun _ _ => 0) with | some r => decide (0 ≤ r.toInt) && decide (r.toInt ≤ 9) && bt (nI n) r.toNatClampNeg | none => false) = true := by decide +kernel
theorem zJ6_ntz (x1 : Int32) (m : sm_S) (hp : 1 ≤ x1.toInt ∧ x1.toInt ≤ 1023) : Sf (fun r => 0 ≤ r.toInt ∧ r.toInt ≤ 9 ∧ bt x1 r.toNatClampNeg = true) (fJ6_numberOfTrailingZeros_0f7a4 x1 m) := by
  have e := a_tn (x := x1) (by omega)
  have e1 := a_nI (x := x1) (by omega)
  have h := ntz_ok x1.toNatClampNeg (by omega) (by omega)
  rw [← e1] at h
  have h2 : fJ6_numberOfTrailingZeros_0f7a4 x1 (fun _ _ => 0, fun _ _ => 0) = fJ6_numberOfTrailingZeros_0f7a4 x1 m := rfl
  rw [h2] at h
  cases hr : fJ6_numberOfTrailingZeros_0f7a4 x1 m with
  | none => rw [hr] at h; cases h
  | some r =>
    rw [hr] at h
    simp only [Bool.and_eq_true, decide_eq_true_eq] at h
    exact ⟨r, rfl, h.1.1, h.1.2, h.2⟩
theorem zX12_couples_66 (m0 : sm_S) (rec : Int32 → Int32 → Int32 → sm_S → Option sm_S) : ∀ (n : Nat) (v5 : Int32) (m : sm_S), (0 ≤ v5.toInt ∧ v5.toInt ≤ 10 ∧ 10 - v5.toInt < (n : Int)) → zI m → Fr wX12_couples m0 m → (m.1 72 42).toInt = (m0.1 72 42).toInt → Sf (fun r => zI r ∧ Fr wX12_couples m0 r ∧ (r.1 72 42).toInt = (m0.1 72 42).toInt) (fX12_couples_66 rec n v5 m) := by
  intro n
  induction n with
  | zero => intro v5 m hp hI hF h42; omega
  | succ n ih =>
    intro v5 m hp hI hF h42
    have hnn : ((n + 1 : Nat) : Int) = (n : Int) + 1 := by omega
    have c1 : 0 ≤ (m.1 72 42).toInt ∧ (m.1 72 42).toInt ≤ 10 := hI.1 72 42
    unfold fX12_couples_66
    refine s_le (fun h1 => s_ret ⟨hI, hF, h42⟩) (fun h1 => ?_)
    have hx : 0 ≤ v5.toInt ∧ v5.toInt < (10 : Int) := by omega
    refine s_ix hx (s_ix hx ?_)
    have e1 : (v5 + (1 : Int32)).toInt = v5.toInt + 1 := a_addl L1 (by omega) (by omega)
    exact ih (v5 + (1 : Int32)) _ (by omega) (zI.w hI rfl (rg _)) (Fr.w hF rfl) h42
/-- what a round of couples wants of the one that it calls -/
def cpl (k : Nat) (rec : Int32 → Int32 → Int32 → sm_S → Option sm_S) : Prop := ∀ (x1 x2 x3 : Int32) (m : sm_S), (0 ≤ x1.toInt ∧ x1.toInt ≤ 1023 ∧ 0 ≤ x2.toInt ∧ x2.toInt ≤ 2 ∧ (pc x1 : Int) < (k : Int) ∧ (m.1 72 42).toInt + (pc x1 : Int) ≤ 10) → zI m → Sf (fun r => zI r ∧ Fr wX12_couples m r ∧ (r.1 72 42).toInt = (m.1 72 42).toInt) (rec x1 x2 x3 m)
theorem zX12_couples_118 (k : Nat) (m0 : sm_S) (rec : Int32 → Int32 → Int32 → sm_S → Option sm_S) (hrec : cpl k rec) : ∀ (n : Nat) (v2 v3 v4 v5 v6 : Int32) (m : sm_S), (0 ≤ v2.toInt ∧ v2.toInt ≤ 2 ∧ 0 ≤ v4.toInt ∧ v4.toInt ≤ 9 ∧ 0 ≤ v5.toInt ∧ v5.toInt ≤ 1023 ∧ 0 ≤ v6.toInt ∧ v6.toInt ≤ 10 ∧ 10 - v6.toInt < (n : Int) ∧ (pc v5 : Int) < (k : Int) ∧ (m.1 72 42).toInt + (pc v5 : Int) + 1 ≤ 10) → zI m → Fr wX12_couples m0 m → (m.1 72 42).toInt = (m0.1 72 42).toInt → Sf (fun r => zI r ∧ Fr wX12_couples m0 r ∧ (r.1 72 42).toInt = (m0.1 72 42).toInt) (fX12_couples_118 rec n v2 v3 v4 v5 v6 m) := by
  intro n
  induction n with
  | zero => intro v2 v3 v4 v5 v6 m hp hI hF h42; omega
  | succ n ih =>
    intro v2 v3 v4 v5 v6 m hp hI hF h42
    have hnn : ((n + 1 : Nat) : Int) = (n : Int) + 1 := by omega
    have c1 : 0 ≤ (m.1 72 42).toInt ∧ (m.1 72 42).toInt ≤ 10 := hI.1 72 42
    have c2 : 0 ≤ (m.1 72 3).toInt ∧ (m.1 72 3).toInt ≤ 10 := hI.1 72 3
    have l0 := L0
    have l1 := L1
    have l2 := L2
    unfold fX12_couples_118
    refine s_le (fun h1 => ?_) (fun h1 => ?_)
    · refine s_le (fun h2 => s_ret ⟨hI, hF, h42⟩) (fun h2 => ?_)
      have e1 : (v2 - (1 : Int32)).toInt = v2.toInt - 1 := a_subl L1 (by omega) (by omega)
      refine s_bd (hrec v5 (v2 - (1 : Int32)) v3 m (by omega) hI) (fun r hr => ?_)
      exact s_ret ⟨hr.1, Fr.trans hF hr.2.1 rfl, hr.2.2.trans h42⟩
    · have h6 : v6.toInt < 10 := by omega
      have hb := b_has (x := v5) (b := v6) (by omega) (by omega)
      have e1 : (v6 + (1 : Int32)).toInt = v6.toInt + 1 := a_addl L1 (by omega) (by omega)
      unfold fX12_has
      refine s_bd (P := fun r => (r = 1 ∧ bt v5 v6.toNatClampNeg = true) ∨ r = 0) ?_ (fun r hr => ?_)
      · refine s_if (fun q => s_ret (Or.inl ⟨rfl, hb.mp q⟩)) (fun q => s_ret (Or.inr rfl))
      refine s_eq (fun h2 => ?_) (fun h2 => ?_)
      · exact ih v2 v3 v4 v5 (v6 + (1 : Int32)) m (by omega) hI hF h42
      · have hbit : bt v5 v6.toNatClampNeg = true := by
          rcases hr with hr | hr
          · exact hr.2
          · exfalso; apply h2; rw [hr]
        have hd := pc_del (x := v5) (b := v6) (by omega) (by omega) hbit
        have ha := a_andl (x := v5) (y := ((1 : Int32) <<< (v6 &&& 31)) ^^^ (-1 : Int32)) (by omega)
        have x1 : 0 ≤ (m.1 72 42).toInt ∧ (m.1 72 42).toInt < (10 : Int) := by omega
        have e2 : ((m.1 72 42) + (1 : Int32)).toInt = (m.1 72 42).toInt + 1 := a_addl L1 (by omega) (by omega)
        have e3 : ((m.1 72 42) + (2 : Int32)).toInt = (m.1 72 42).toInt + 2 := a_addl L2 (by omega) (by omega)
        have x2 : 0 ≤ ((m.1 72 42) + (1 : Int32)).toInt ∧ ((m.1 72 42) + (1 : Int32)).toInt < (10 : Int) := by omega
        refine s_ix x1 (s_ix x2 ?_)
        have i1 : zI (sm_w1 (sm_w1 (sm_w1 m 96 (m.1 72 42).toNatClampNeg v4) 96 ((m.1 72 42) + (1 : Int32)).toNatClampNeg v6) 72 42 ((m.1 72 42) + (2 : Int32))) := zI.w (zI.w (zI.w hI rfl (rg _)) rfl (rg _)) rfl (show 0 ≤ ((m.1 72 42) + (2 : Int32)).toInt ∧ ((m.1 72 42) + (2 : Int32)).toInt ≤ 10 by omega)
        have f1 : Fr wX12_couples m0 (sm_w1 (sm_w1 (sm_w1 m 96 (m.1 72 42).toNatClampNeg v4) 96 ((m.1 72 42) + (1 : Int32)).toNatClampNeg v6) 72 42 ((m.1 72 42) + (2 : Int32))) := Fr.w (Fr.w (Fr.w hF rfl) rfl) rfl
        refine s_bd (zX12_grassOf v4 v6 _ (by omega) i1) (fun r10 _ => ?_)
        have e4 : ((sm_w1 (sm_w1 (sm_w1 m 96 (m.1 72 42).toNatClampNeg v4) 96 ((m.1 72 42) + (1 : Int32)).toNatClampNeg v6) 72 42 ((m.1 72 42) + (2 : Int32))).1 72 42).toInt = ((m.1 72 42) + (2 : Int32)).toInt := rfl
        refine s_bd (hrec (v5 &&& (((1 : Int32) <<< (v6 &&& 31)) ^^^ (-1 : Int32))) v2 (v3 + r10) _ (by omega) i1) (fun r hr2 => ?_)
        obtain ⟨j1, j2, j3⟩ := hr2
        have e5 : ((r.1 72 42) - (2 : Int32)).toInt = (r.1 72 42).toInt - 2 := a_subl L2 (by omega) (by omega)
        have e6 : ((sm_w1 r 72 42 ((r.1 72 42) - (2 : Int32))).1 72 42).toInt = ((r.1 72 42) - (2 : Int32)).toInt := rfl
        exact ih v2 v3 v4 v5 (v6 + (1 : Int32)) _ (by omega) (zI.w j1 rfl (show 0 ≤ ((r.1 72 42) - (2 : Int32)).toInt ∧ ((r.1 72 42) - (2 : Int32)).toInt ≤ 10 by omega)) (Fr.w (Fr.trans f1 j2 rfl) rfl) (by omega)
theorem zX12_couplesR (k : Nat) (rec : Int32 → Int32 → Int32 → sm_S → Option sm_S) (hrec : cpl k rec) : cpl (k + 1) (fX12_couplesR rec) := by
  intro x1 x2 x3 m hp hI
  have hfu := fuE
  have l0 := L0
  have c1 : 0 ≤ (m.1 72 42).toInt ∧ (m.1 72 42).toInt ≤ 10 := hI.1 72 42
  have w66 : ∀ S : sm_S, zI S → Fr wX12_couples m S → (S.1 72 42).toInt = (m.1 72 42).toInt → Sf (fun r => zI r ∧ Fr wX12_couples m r ∧ (r.1 72 42).toInt = (m.1 72 42).toInt) (fX12_couples_66 rec sm_fu (0 : Int32) S) := fun S h1 h2 h3 => zX12_couples_66 m rec sm_fu (0 : Int32) S (by omega) h1 h2 h3
  have i1 : zI (sm_w1 (sm_w1 m 72 46 x3) 72 45 (m.1 72 42)) := zI.w (zI.w hI rfl (rg _)) rfl (show 0 ≤ (m.1 72 42).toInt ∧ (m.1 72 42).toInt ≤ 10 by omega)
  have f1 : Fr wX12_couples m (sm_w1 (sm_w1 m 72 46 x3) 72 45 (m.1 72 42)) := Fr.w (Fr.w Fr.refl rfl) rfl
  have w1 := w66 _ i1 f1 rfl
  unfold fX12_couplesR
  refine s_eq (fun h1 => ?_) (fun h1 => ?_)
  · refine s_eq (fun h2 => ?_) (fun h2 => s_ret ⟨hI, Fr.refl, rfl⟩)
    refine s_lt (fun h3 => w1) (fun h3 => ?_)
    refine s_lt (fun h4 => w1) (fun h4 => ?_)
    refine s_eq (fun h5 => ?_) (fun h5 => s_ret ⟨hI, Fr.refl, rfl⟩)
    refine s_bd (zX12_isLessRow m hI) (fun r _ => ?_)
    exact s_eq (fun h6 => s_ret ⟨hI, Fr.refl, rfl⟩) (fun h6 => w1)
  · refine s_bd (zJ6_ntz x1 m (by omega)) (fun r hr => ?_)
    obtain ⟨r0, r9, rb⟩ := hr
    have hd := pc_del (x := x1) (b := r) (by omega) (by omega) rb
    have ha := a_andl (x := x1) (y := ((1 : Int32) <<< (r &&& 31)) ^^^ (-1 : Int32)) (by omega)
    have e1 : (r + (1 : Int32)).toInt = r.toInt + 1 := a_addl L1 (by omega) (by omega)
    exact zX12_couples_118 k m rec hrec sm_fu x2 x3 r _ (r + (1 : Int32)) m (by omega) hI Fr.refl rfl
theorem zX12_couplesN : ∀ n : Nat, cpl n (fX12_couplesN n)
  | 0 => fun x1 x2 x3 m hp hI => by omega
  | n + 1 => zX12_couplesR n (fX12_couplesN n) (zX12_couplesN n)
theorem zX12_couples (x1 : Int32) (x2 : Int32) (x3 : Int32) (m : sm_S) (hp : 0 ≤ x1.toInt ∧ x1.toInt ≤ 1023 ∧ 0 ≤ x2.toInt ∧ x2.toInt ≤ 2 ∧ 0 ≤ x3.toInt ∧ x3.toInt ≤ 0 ∧ (m.1 72 42).toInt = 0) (hI : zI m) : Sf (fun r => (True) ∧ zI r ∧ Fr wX12_couples m r) (fX12_couples x1 x2 x3 m) := by
  have h1 := pc_le x1
  unfold fX12_couples
  exact s_mono (zX12_couplesN 12 x1 x2 x3 m (by omega) hI) (fun r hr => ⟨trivial, hr.1, hr.2.1⟩)
