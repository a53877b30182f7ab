theorem zX12_wrongOf (x1 : Int32) (m : sm_S) (hp : 0 ≤ x1.toInt ∧ x1.toInt ≤ 4095) (hI : zI m) : Sf (fun r => (0 ≤ r.toInt) ∧ (r.toInt ≤ 4095)) (fX12_wrongOf x1 m) := by
  have hfu := fuE
  unfold fX12_wrongOf
  have kc1 := L0
  exact zX12_wrongOf_4 sm_fu x1 (0 : Int32) (0 : Int32) m (show 0 ≤ x1.toInt ∧ x1.toInt ≤ 4095 ∧ 0 ≤ (0 : Int32).toInt ∧ (0 : Int32).toInt ≤ 4095 ∧ 0 ≤ (0 : Int32).toInt ∧ (0 : Int32).toInt ≤ 12 ∧ 12 - (0 : Int32).toInt < (sm_fu : Int) by omega) hI
theorem zX12_lands_11 (m0 : sm_S) : ∀ (n : Nat) (v1 : Int32) (v2 : Int32) (v3 : Int32) (m : sm_S), (0 ≤ v2.toInt ∧ v2.toInt ≤ 4095 ∧ 0 ≤ v3.toInt ∧ v3.toInt ≤ 4096 ∧ 4096 - v3.toInt < (n : Int)) → zI m → Fr wX12_lands m0 m → Sf (fun r => (True) ∧ zI r.2 ∧ Fr wX12_lands m0 r.2) (fX12_lands_11 n v1 v2 v3 m) := by
  intro n
  induction n with
  | zero =>
    intro v1 v2 v3 m hp hI hF
    exfalso
    omega
  | succ n ih =>
    intro v1 v2 v3 m hp hI hF
    have hnn : ((n + 1 : Nat) : Int) = (n : Int) + 1 := by omega
    have hfu := fuE
    unfold fX12_lands_11
    have kc1 := L4096
    refine s_le (fun kh2 => ?_) (fun kh2 => ?_)
    · have kc3 := L0
      refine s_le (fun kh4 => ?_) (fun kh4 => ?_)
      · have ki5 : zI (sm_w1 m 72 1 (0 : Int32)) := zI.w hI rfl (show 0 ≤ ((0 : Int32)).toInt ∧ ((0 : Int32)).toInt ≤ 24 by omega)
        have kf6 : Fr wX12_lands m0 (sm_w1 m 72 1 (0 : Int32)) := Fr.w hF rfl
        exact s_ret ⟨trivial, ki5, kf6⟩
      · have ki7 : zI (sm_w1 m 72 1 (0 : Int32)) := zI.w hI rfl (show 0 ≤ ((0 : Int32)).toInt ∧ ((0 : Int32)).toInt ≤ 24 by omega)
        refine s_bd (zX12_digitsOf v2 (sm_w1 m 72 1 (0 : Int32)) (show 0 ≤ v2.toInt ∧ v2.toInt ≤ 4095 by omega) ki7) (fun r2 kr8 => ?_)
        have kc9 : 0 ≤ ((sm_w1 m 72 1 (0 : Int32)).1 72 1).toInt ∧ ((sm_w1 m 72 1 (0 : Int32)).1 72 1).toInt ≤ 24 := ki7.1 72 1
        have kc10 : ((sm_w1 m 72 1 (0 : Int32)).1 72 1).toInt = ((0 : Int32)).toInt := rfl
        refine s_bd (zX12_enters r2 (sm_w1 m 72 1 (0 : Int32)) (show ((sm_w1 m 72 1 (0 : Int32)).1 72 1).toInt ≤ 23 by omega) ki7) (fun m4 kr11 => ?_)
        obtain ⟨kp12, ki13, kf14⟩ := kr11
        replace kp12 : ((m4.1 72 1).toInt = ((sm_w1 m 72 1 (0 : Int32)).1 72 1).toInt + 1) := kp12
        have kc15 : 0 ≤ (m4.1 72 1).toInt ∧ (m4.1 72 1).toInt ≤ 24 := ki13.1 72 1
        have kf16 : Fr wX12_lands m0 (sm_w1 m 72 1 (0 : Int32)) := Fr.w hF rfl
        have kf17 : Fr wX12_lands m0 m4 := Fr.trans kf16 kf14 rfl
        exact s_ret ⟨trivial, ki13, kf17⟩
    · refine s_bd (zX12_wrongOf v3 m (show 0 ≤ v3.toInt ∧ v3.toInt ≤ 4095 by omega) hI) (fun r6 kr18 => ?_)
      replace kr18 : (0 ≤ r6.toInt) ∧ (r6.toInt ≤ 4095) := kr18
      have kc19 := L0
      refine s_eq (fun kh20 => ?_) (fun kh20 => ?_)
      · refine s_eq (fun kh21 => ?_) (fun kh21 => ?_)
        · have kc22 : (v1 + (1 : Int32)).toInt = (v1).toInt + 1 := a_addl L1 (by omega) (by omega)
          have kc23 : (v3 + (1 : Int32)).toInt = (v3).toInt + 1 := a_addl L1 (by omega) (by omega)
          exact ih (v1 + (1 : Int32)) v3 (v3 + (1 : Int32)) m (show 0 ≤ v3.toInt ∧ v3.toInt ≤ 4095 ∧ 0 ≤ (v3 + (1 : Int32)).toInt ∧ (v3 + (1 : Int32)).toInt ≤ 4096 ∧ 4096 - (v3 + (1 : Int32)).toInt < (n : Int) by omega) hI hF
        · have kc24 : (v3 + (1 : Int32)).toInt = (v3).toInt + 1 := a_addl L1 (by omega) (by omega)
          exact ih (v1 + (1 : Int32)) v2 (v3 + (1 : Int32)) m (show 0 ≤ v2.toInt ∧ v2.toInt ≤ 4095 ∧ 0 ≤ (v3 + (1 : Int32)).toInt ∧ (v3 + (1 : Int32)).toInt ≤ 4096 ∧ 4096 - (v3 + (1 : Int32)).toInt < (n : Int) by omega) hI hF
      · have kc25 : (v3 + (1 : Int32)).toInt = (v3).toInt + 1 := a_addl L1 (by omega) (by omega)
        exact ih v1 v2 (v3 + (1 : Int32)) m (show 0 ≤ v2.toInt ∧ v2.toInt ≤ 4095 ∧ 0 ≤ (v3 + (1 : Int32)).toInt ∧ (v3 + (1 : Int32)).toInt ≤ 4096 ∧ 4096 - (v3 + (1 : Int32)).toInt < (n : Int) by omega) hI hF
theorem zX12_lands (m : sm_S) (hI : zI m) : Sf (fun r => (True) ∧ zI r.2 ∧ Fr wX12_lands m r.2) (fX12_lands m) := by
  have hfu := fuE
  unfold fX12_lands
  have kc1 := L0
  have ki2 : zI (sm_w1 m 72 0 (0 : Int32)) := zI.w hI rfl (show 0 ≤ ((0 : Int32)).toInt ∧ ((0 : Int32)).toInt ≤ 1 by omega)
  have kf3 : Fr wX12_lands m (sm_w1 m 72 0 (0 : Int32)) := Fr.w Fr.refl rfl
  exact zX12_lands_11 m sm_fu (0 : Int32) (0 : Int32) (0 : Int32) (sm_w1 m 72 0 (0 : Int32)) (show 0 ≤ (0 : Int32).toInt ∧ (0 : Int32).toInt ≤ 4095 ∧ 0 ≤ (0 : Int32).toInt ∧ (0 : Int32).toInt ≤ 4096 ∧ 4096 - (0 : Int32).toInt < (sm_fu : Int) by omega) ki2 kf3
theorem zX12_sure_103 (m0 : sm_S) : ∀ (n : Nat) (v1 : Int32) (v2 : Int32) (v3 : Int32) (v4 : Int32) (m : sm_S), (0 ≤ v1.toInt ∧ v1.toInt ≤ 4095 ∧ 0 ≤ v2.toInt ∧ v2.toInt ≤ 63 ∧ 0 ≤ v3.toInt ∧ v3.toInt ≤ 63 ∧ 0 ≤ v4.toInt ∧ v4.toInt ≤ 6 ∧ 6 - v4.toInt < (n : Int) ∧ (m.1 72 1).toInt ≤ v4.toInt) → zI m → Fr wX12_sure m0 m → Sf (fun r => ((0 ≤ r.1.toInt) ∧ (r.1.toInt ≤ 63)) ∧ zI r.2 ∧ Fr wX12_sure m0 r.2) (fX12_sure_103 n v1 v2 v3 v4 m) := by
  intro n
  induction n with
  | zero =>
    intro v1 v2 v3 v4 m hp hI hF
    have kc1 : 0 ≤ (m.1 72 1).toInt ∧ (m.1 72 1).toInt ≤ 24 := hI.1 72 1
    exfalso
    omega
  | succ n ih =>
    intro v1 v2 v3 v4 m hp hI hF
    have hnn : ((n + 1 : Nat) : Int) = (n : Int) + 1 := by omega
    have hfu := fuE
    have kc1 : 0 ≤ (m.1 72 1).toInt ∧ (m.1 72 1).toInt ≤ 24 := hI.1 72 1
    unfold fX12_sure_103
    have kc2 := L6
    refine s_le (fun kh3 => ?_) (fun kh3 => ?_)
    · exact s_ret ⟨(show (0 ≤ v3.toInt) ∧ (v3.toInt ≤ 63) by omega), hI, hF⟩
    · refine s_bd (zX12_has v2 v4 m (show 0 ≤ v2.toInt ∧ v2.toInt ≤ 16383 ∧ 0 ≤ v4.toInt ∧ v4.toInt ≤ 13 by omega) hI) (fun r2 kr4 => ?_)
      replace kr4 : (0 ≤ r2.toInt) ∧ (r2.toInt ≤ 1) := kr4
      have kc5 := L0
      refine s_eq (fun kh6 => ?_) (fun kh6 => ?_)
      · refine s_bd (zX12_cowsOf v1 v4 m (show 0 ≤ v1.toInt ∧ v1.toInt ≤ 4095 ∧ (-1 : Int) ≤ v4.toInt ∧ v4.toInt ≤ 9 by omega) hI) (fun r4 kr7 => ?_)
        replace kr7 : (0 ≤ r4.toInt) ∧ (r4.toInt ≤ 3) := kr7
        refine s_bd (zX12_enters r4 m (show (m.1 72 1).toInt ≤ 23 by omega) hI) (fun m6 kr8 => ?_)
        obtain ⟨kp9, ki10, kf11⟩ := kr8
        replace kp9 : ((m6.1 72 1).toInt = (m.1 72 1).toInt + 1) := kp9
        have kc12 : 0 ≤ (m6.1 72 1).toInt ∧ (m6.1 72 1).toInt ≤ 24 := ki10.1 72 1
        have kc13 := L1
        have kc14 := L31
        have kc15 : 0 ≤ (v4 &&& (31 : Int32)).toInt ∧ (v4 &&& (31 : Int32)).toInt ≤ ((31 : Int32)).toInt := a_andr (by omega)
        have kc16 : 0 ≤ (v4 &&& (31 : Int32)).toInt ∧ (v4 &&& (31 : Int32)).toInt ≤ (v4).toInt := a_andl (by omega)
        have kc17 : 1 ≤ ((1 : Int32) <<< (v4 &&& (31 : Int32))).toInt ∧ ((1 : Int32) <<< (v4 &&& (31 : Int32))).toInt ≤ 32 := a_shl 5 (by decide) (by decide) (by omega) (by omega)
        have kc18 : 0 ≤ (v3 ||| ((1 : Int32) <<< (v4 &&& (31 : Int32)))).toInt ∧ (v3 ||| ((1 : Int32) <<< (v4 &&& (31 : Int32)))).toInt < 64 := a_or 6 (by decide) (by decide) (by omega) (by omega) (by omega) (by omega)
        have kc19 : (v4 + (1 : Int32)).toInt = (v4).toInt + 1 := a_addl L1 (by omega) (by omega)
        have kf20 : Fr wX12_sure m0 m6 := Fr.trans hF kf11 rfl
        exact ih v1 v2 (v3 ||| ((1 : Int32) <<< (v4 &&& (31 : Int32)))) (v4 + (1 : Int32)) m6 (show 0 ≤ v1.toInt ∧ v1.toInt ≤ 4095 ∧ 0 ≤ v2.toInt ∧ v2.toInt ≤ 63 ∧ 0 ≤ (v3 ||| ((1 : Int32) <<< (v4 &&& (31 : Int32)))).toInt ∧ (v3 ||| ((1 : Int32) <<< (v4 &&& (31 : Int32)))).toInt ≤ 63 ∧ 0 ≤ (v4 + (1 : Int32)).toInt ∧ (v4 + (1 : Int32)).toInt ≤ 6 ∧ 6 - (v4 + (1 : Int32)).toInt < (n : Int) ∧ (m6.1 72 1).toInt ≤ (v4 + (1 : Int32)).toInt by omega) ki10 kf20
      · have kc21 : (v4 + (1 : Int32)).toInt = (v4).toInt + 1 := a_addl L1 (by omega) (by omega)
        exact ih v1 v2 v3 (v4 + (1 : Int32)) m (show 0 ≤ v1.toInt ∧ v1.toInt ≤ 4095 ∧ 0 ≤ v2.toInt ∧ v2.toInt ≤ 63 ∧ 0 ≤ v3.toInt ∧ v3.toInt ≤ 63 ∧ 0 ≤ (v4 + (1 : Int32)).toInt ∧ (v4 + (1 : Int32)).toInt ≤ 6 ∧ 6 - (v4 + (1 : Int32)).toInt < (n : Int) ∧ (m.1 72 1).toInt ≤ (v4 + (1 : Int32)).toInt by omega) hI hF
theorem zX12_sure_42 (m0 : sm_S) (k11 : Int32 → Int32 → Int32 → sm_S → Option (Int32 × sm_S)) (Nk11 : Nat) (hk11 : ∀ (v1 : Int32) (v2 : Int32) (v3 : Int32) (m : sm_S), ((-1 : Int) ≤ v1.toInt ∧ v1.toInt ≤ 4095 ∧ 0 ≤ v2.toInt ∧ v2.toInt ≤ 63 ∧ 0 ≤ v3.toInt ∧ v3.toInt ≤ 4096 ∧ 4096 - v3.toInt < (Nk11 : Int)) → zI m → Fr wX12_sure m0 m → Sf (fun r => ((0 ≤ r.1.toInt) ∧ (r.1.toInt ≤ 63)) ∧ zI r.2 ∧ Fr wX12_sure m0 r.2) (k11 v1 v2 v3 m)) : ∀ (n : Nat) (v1 : Int32) (v2 : Int32) (v3 : Int32) (v4 : Int32) (m : sm_S), (0 ≤ v1.toInt ∧ v1.toInt ≤ 4095 ∧ 0 ≤ v2.toInt ∧ v2.toInt ≤ 63 ∧ 0 ≤ v3.toInt ∧ v3.toInt ≤ 4095 ∧ 0 ≤ v4.toInt ∧ v4.toInt ≤ 6 ∧ 6 - v4.toInt < (n : Int) ∧ 4096 - v3.toInt ≤ (Nk11 : Int)) → zI m → Fr wX12_sure m0 m → Sf (fun r => ((0 ≤ r.1.toInt) ∧ (r.1.toInt ≤ 63)) ∧ zI r.2 ∧ Fr wX12_sure m0 r.2) (fX12_sure_42 k11 n v1 v2 v3 v4 m) := by
  intro n
  induction n with
  | zero =>
    intro v1 v2 v3 v4 m hp hI hF
    exfalso
    omega
  | succ n ih =>
    intro v1 v2 v3 v4 m hp hI hF
    have hnn : ((n + 1 : Nat) : Int) = (n : Int) + 1 := by omega
    have hfu := fuE
    unfold fX12_sure_42
    have kc1 := L6
    refine s_le (fun kh2 => ?_) (fun kh2 => ?_)
    · have kc3 : (v3 + (1 : Int32)).toInt = (v3).toInt + 1 := a_addl L1 (by omega) (by omega)
      exact hk11 v1 v2 (v3 + (1 : Int32)) m (show (-1 : Int) ≤ v1.toInt ∧ v1.toInt ≤ 4095 ∧ 0 ≤ v2.toInt ∧ v2.toInt ≤ 63 ∧ 0 ≤ (v3 + (1 : Int32)).toInt ∧ (v3 + (1 : Int32)).toInt ≤ 4096 ∧ 4096 - (v3 + (1 : Int32)).toInt < (Nk11 : Int) by omega) hI hF
    · refine s_bd (zX12_cowsOf v3 v4 m (show 0 ≤ v3.toInt ∧ v3.toInt ≤ 4095 ∧ (-1 : Int) ≤ v4.toInt ∧ v4.toInt ≤ 9 by omega) hI) (fun r10 kr4 => ?_)
      replace kr4 : (0 ≤ r10.toInt) ∧ (r10.toInt ≤ 3) := kr4
      refine s_bd (zX12_cowsOf v1 v4 m (show 0 ≤ v1.toInt ∧ v1.toInt ≤ 4095 ∧ (-1 : Int) ≤ v4.toInt ∧ v4.toInt ≤ 9 by omega) hI) (fun r12 kr5 => ?_)
      replace kr5 : (0 ≤ r12.toInt) ∧ (r12.toInt ≤ 3) := kr5
      refine s_eq (fun kh6 => ?_) (fun kh6 => ?_)
      · have kc7 := L0
        have kc8 : 0 ≤ (v2 ||| (0 : Int32)).toInt ∧ (v2 ||| (0 : Int32)).toInt < 64 := a_or 6 (by decide) (by decide) (by omega) (by omega) (by omega) (by omega)
        have kc9 : (v4 + (1 : Int32)).toInt = (v4).toInt + 1 := a_addl L1 (by omega) (by omega)
        exact ih v1 (v2 ||| (0 : Int32)) v3 (v4 + (1 : Int32)) m (show 0 ≤ v1.toInt ∧ v1.toInt ≤ 4095 ∧ 0 ≤ (v2 ||| (0 : Int32)).toInt ∧ (v2 ||| (0 : Int32)).toInt ≤ 63 ∧ 0 ≤ v3.toInt ∧ v3.toInt ≤ 4095 ∧ 0 ≤ (v4 + (1 : Int32)).toInt ∧ (v4 + (1 : Int32)).toInt ≤ 6 ∧ 6 - (v4 + (1 : Int32)).toInt < (n : Int) ∧ 4096 - v3.toInt ≤ (Nk11 : Int) by omega) hI hF
      · have kc10 := L1
        have kc11 := L31
        have kc12 : 0 ≤ (v4 &&& (31 : Int32)).toInt ∧ (v4 &&& (31 : Int32)).toInt ≤ ((31 : Int32)).toInt := a_andr (by omega)
        have kc13 : 0 ≤ (v4 &&& (31 : Int32)).toInt ∧ (v4 &&& (31 : Int32)).toInt ≤ (v4).toInt := a_andl (by omega)
        have kc14 : 1 ≤ ((1 : Int32) <<< (v4 &&& (31 : Int32))).toInt ∧ ((1 : Int32) <<< (v4 &&& (31 : Int32))).toInt ≤ 32 := a_shl 5 (by decide) (by decide) (by omega) (by omega)
        have kc15 : 0 ≤ (v2 ||| ((1 : Int32) <<< (v4 &&& (31 : Int32)))).toInt ∧ (v2 ||| ((1 : Int32) <<< (v4 &&& (31 : Int32)))).toInt < 64 := a_or 6 (by decide) (by decide) (by omega) (by omega) (by omega) (by omega)
        have kc16 : (v4 + (1 : Int32)).toInt = (v4).toInt + 1 := a_addl L1 (by omega) (by omega)
        exact ih v1 (v2 ||| ((1 : Int32) <<< (v4 &&& (31 : Int32)))) v3 (v4 + (1 : Int32)) m (show 0 ≤ v1.toInt ∧ v1.toInt ≤ 4095 ∧ 0 ≤ (v2 ||| ((1 : Int32) <<< (v4 &&& (31 : Int32)))).toInt ∧ (v2 ||| ((1 : Int32) <<< (v4 &&& (31 : Int32)))).toInt ≤ 63 ∧ 0 ≤ v3.toInt ∧ v3.toInt ≤ 4095 ∧ 0 ≤ (v4 + (1 : Int32)).toInt ∧ (v4 + (1 : Int32)).toInt ≤ 6 ∧ 6 - (v4 + (1 : Int32)).toInt < (n : Int) ∧ 4096 - v3.toInt ≤ (Nk11 : Int) by omega) hI hF
theorem zX12_sure_11 (m0 : sm_S) : ∀ (n : Nat) (v1 : Int32) (v2 : Int32) (v3 : Int32) (m : sm_S), ((-1 : Int) ≤ v1.toInt ∧ v1.toInt ≤ 4095 ∧ 0 ≤ v2.toInt ∧ v2.toInt ≤ 63 ∧ 0 ≤ v3.toInt ∧ v3.toInt ≤ 4096 ∧ 4096 - v3.toInt < (n : Int)) → zI m → Fr wX12_sure m0 m → Sf (fun r => ((0 ≤ r.1.toInt) ∧ (r.1.toInt ≤ 63)) ∧ zI r.2 ∧ Fr wX12_sure m0 r.2) (fX12_sure_11 n v1 v2 v3 m) := by
  intro n
  induction n with
  | zero =>
    intro v1 v2 v3 m hp hI hF
    exfalso
    omega
  | succ n ih =>
    intro v1 v2 v3 m hp hI hF
    have hnn : ((n + 1 : Nat) : Int) = (n : Int) + 1 := by omega
    have hfu := fuE
    unfold fX12_sure_11
    have kc1 := L4096
    refine s_le (fun kh2 => ?_) (fun kh2 => ?_)
    · have kc3 := L0
      refine s_le (fun kh4 => ?_) (fun kh4 => ?_)
      · have ki5 : zI (sm_w1 m 72 1 (0 : Int32)) := zI.w hI rfl (show 0 ≤ ((0 : Int32)).toInt ∧ ((0 : Int32)).toInt ≤ 24 by omega)
        have kc6 : 0 ≤ ((sm_w1 m 72 1 (0 : Int32)).1 72 1).toInt ∧ ((sm_w1 m 72 1 (0 : Int32)).1 72 1).toInt ≤ 24 := ki5.1 72 1
        have kc7 : ((sm_w1 m 72 1 (0 : Int32)).1 72 1).toInt = ((0 : Int32)).toInt := rfl
        have kf8 : Fr wX12_sure m0 (sm_w1 m 72 1 (0 : Int32)) := Fr.w hF rfl
        exact zX12_sure_103 m0 sm_fu v1 v2 (0 : Int32) (0 : Int32) (sm_w1 m 72 1 (0 : Int32)) (show 0 ≤ v1.toInt ∧ v1.toInt ≤ 4095 ∧ 0 ≤ v2.toInt ∧ v2.toInt ≤ 63 ∧ 0 ≤ (0 : Int32).toInt ∧ (0 : Int32).toInt ≤ 63 ∧ 0 ≤ (0 : Int32).toInt ∧ (0 : Int32).toInt ≤ 6 ∧ 6 - (0 : Int32).toInt < (sm_fu : Int) ∧ ((sm_w1 m 72 1 (0 : Int32)).1 72 1).toInt ≤ (0 : Int32).toInt by omega) ki5 kf8
      · have ki9 : zI (sm_w1 m 72 1 (0 : Int32)) := zI.w hI rfl (show 0 ≤ ((0 : Int32)).toInt ∧ ((0 : Int32)).toInt ≤ 24 by omega)
        have kf10 : Fr wX12_sure m0 (sm_w1 m 72 1 (0 : Int32)) := Fr.w hF rfl
        exact s_ret ⟨(show (0 ≤ (0 : Int32).toInt) ∧ ((0 : Int32).toInt ≤ 63) by omega), ki9, kf10⟩
    · refine s_bd (zX12_wrongOf v3 m (show 0 ≤ v3.toInt ∧ v3.toInt ≤ 4095 by omega) hI) (fun r8 kr11 => ?_)
      replace kr11 : (0 ≤ r8.toInt) ∧ (r8.toInt ≤ 4095) := kr11
      have kc12 := L0
      refine s_eq (fun kh13 => ?_) (fun kh13 => ?_)
      · refine s_le (fun kh14 => ?_) (fun kh14 => ?_)
        · exact zX12_sure_42 m0 (fX12_sure_11 n) n ih sm_fu v1 v2 v3 (0 : Int32) m (show 0 ≤ v1.toInt ∧ v1.toInt ≤ 4095 ∧ 0 ≤ v2.toInt ∧ v2.toInt ≤ 63 ∧ 0 ≤ v3.toInt ∧ v3.toInt ≤ 4095 ∧ 0 ≤ (0 : Int32).toInt ∧ (0 : Int32).toInt ≤ 6 ∧ 6 - (0 : Int32).toInt < (sm_fu : Int) ∧ 4096 - v3.toInt ≤ (n : Int) by omega) hI hF
        · exact zX12_sure_42 m0 (fX12_sure_11 n) n ih sm_fu v3 v2 v3 (0 : Int32) m (show 0 ≤ v3.toInt ∧ v3.toInt ≤ 4095 ∧ 0 ≤ v2.toInt ∧ v2.toInt ≤ 63 ∧ 0 ≤ v3.toInt ∧ v3.toInt ≤ 4095 ∧ 0 ≤ (0 : Int32).toInt ∧ (0 : Int32).toInt ≤ 6 ∧ 6 - (0 : Int32).toInt < (sm_fu : Int) ∧ 4096 - v3.toInt ≤ (n : Int) by omega) hI hF
      · have kc15 : (v3 + (1 : Int32)).toInt = (v3).toInt + 1 := a_addl L1 (by omega) (by omega)
        exact ih v1 v2 (v3 + (1 : Int32)) m (show (-1 : Int) ≤ v1.toInt ∧ v1.toInt ≤ 4095 ∧ 0 ≤ v2.toInt ∧ v2.toInt ≤ 63 ∧ 0 ≤ (v3 + (1 : Int32)).toInt ∧ (v3 + (1 : Int32)).toInt ≤ 4096 ∧ 4096 - (v3 + (1 : Int32)).toInt < (n : Int) by omega) hI hF
theorem zX12_sure (m : sm_S) (hI : zI m) : Sf (fun r => ((0 ≤ r.1.toInt) ∧ (r.1.toInt ≤ 63)) ∧ zI r.2 ∧ Fr wX12_sure m r.2) (fX12_sure m) := by
  have hfu := fuE
  unfold fX12_sure
  have kc1 := Ln1
  have kc2 := L0
  have ki3 : zI (sm_w1 m 72 0 (0 : Int32)) := zI.w hI rfl (show 0 ≤ ((0 : Int32)).toInt ∧ ((0 : Int32)).toInt ≤ 1 by omega)
  have kf4 : Fr wX12_sure m (sm_w1 m 72 0 (0 : Int32)) := Fr.w Fr.refl rfl
  exact zX12_sure_11 m sm_fu (-1 : Int32) (0 : Int32) (0 : Int32) (sm_w1 m 72 0 (0 : Int32)) (show (-1 : Int) ≤ (-1 : Int32).toInt ∧ (-1 : Int32).toInt ≤ 4095 ∧ 0 ≤ (0 : Int32).toInt ∧ (0 : Int32).toInt ≤ 63 ∧ 0 ≤ (0 : Int32).toInt ∧ (0 : Int32).toInt ≤ 4096 ∧ 4096 - (0 : Int32).toInt < (sm_fu : Int) by omega) ki3 kf4
theorem zX12_next_99 (m0 : sm_S) (k12 : Int32 → Int32 → Int32 → sm_S → Option (Int32 × sm_S)) (Nk12 : Nat) (hk12 : ∀ (v1 : Int32) (v2 : Int32) (v3 : Int32) (m : sm_S), ((-2 : Int) ≤ v1.toInt ∧ v1.toInt ≤ 13 ∧ 0 ≤ v2.toInt ∧ 0 ≤ v3.toInt ∧ v3.toInt ≤ 14 ∧ 14 - v3.toInt < (Nk12 : Int)) → zI m → Fr wX12_next m0 m → Sf (fun r => (((-2 : Int) ≤ r.1.toInt) ∧ (r.1.toInt ≤ 13)) ∧ zI r.2 ∧ Fr wX12_next m0 r.2) (k12 v1 v2 v3 m)) : ∀ (n : Nat) (v1 : Int32) (v2 : Int32) (v3 : Int32) (v4 : Int32) (v5 : Int32) (m : sm_S), ((-2 : Int) ≤ v1.toInt ∧ v1.toInt ≤ 13 ∧ 0 ≤ v2.toInt ∧ 0 ≤ v3.toInt ∧ v3.toInt ≤ 13 ∧ 0 ≤ v4.toInt ∧ 0 ≤ v5.toInt ∧ v5.toInt ≤ 7 ∧ v3.toInt < (m.1 72 6).toInt ∧ 7 - v5.toInt < (n : Int) ∧ 14 - v3.toInt ≤ (Nk12 : Int)) → zI m → Fr wX12_next m0 m → Sf (fun r => (((-2 : Int) ≤ r.1.toInt) ∧ (r.1.toInt ≤ 13)) ∧ zI r.2 ∧ Fr wX12_next m0 r.2) (fX12_next_99 k12 n v1 v2 v3 v4 v5 m) := by
  intro n
  induction n with
  | zero =>
    intro v1 v2 v3 v4 v5 m hp hI hF
    have kc1 : 0 ≤ (m.1 72 6).toInt ∧ (m.1 72 6).toInt ≤ 14 := hI.1 72 6
    have kc2 : 0 ≤ (m.1 72 25).toInt ∧ (m.1 72 25).toInt ≤ 14 := hI.1 72 25
    have kc3 := zI.le hI
    have krgv2 := rg v2
    have krgv4 := rg v4
    exfalso
    omega
  | succ n ih =>
    intro v1 v2 v3 v4 v5 m hp hI hF
    have hnn : ((n + 1 : Nat) : Int) = (n : Int) + 1 := by omega
    have hfu := fuE
    have kc1 : 0 ≤ (m.1 72 6).toInt ∧ (m.1 72 6).toInt ≤ 14 := hI.1 72 6
    have kc2 : 0 ≤ (m.1 72 25).toInt ∧ (m.1 72 25).toInt ≤ 14 := hI.1 72 25
    have kc3 := zI.le hI
    have krgv2 := rg v2
    have krgv4 := rg v4
    unfold fX12_next_99
    have kc4 := L7
    refine s_le (fun kh5 => ?_) (fun kh5 => ?_)
    · have kc6 := L0
      refine s_le (fun kh7 => ?_) (fun kh7 => ?_)
      · have kc8 : (v3 + (1 : Int32)).toInt = (v3).toInt + 1 := a_addl L1 (by omega) (by omega)
        exact hk12 v1 v2 (v3 + (1 : Int32)) m (show (-2 : Int) ≤ v1.toInt ∧ v1.toInt ≤ 13 ∧ 0 ≤ v2.toInt ∧ 0 ≤ (v3 + (1 : Int32)).toInt ∧ (v3 + (1 : Int32)).toInt ≤ 14 ∧ 14 - (v3 + (1 : Int32)).toInt < (Nk12 : Int) by omega) hI hF
      · refine s_lt (fun kh9 => ?_) (fun kh9 => ?_)
        · have kc10 : (v3 + (1 : Int32)).toInt = (v3).toInt + 1 := a_addl L1 (by omega) (by omega)
          exact hk12 v3 v4 (v3 + (1 : Int32)) m (show (-2 : Int) ≤ v3.toInt ∧ v3.toInt ≤ 13 ∧ 0 ≤ v4.toInt ∧ 0 ≤ (v3 + (1 : Int32)).toInt ∧ (v3 + (1 : Int32)).toInt ≤ 14 ∧ 14 - (v3 + (1 : Int32)).toInt < (Nk12 : Int) by omega) hI hF
        · refine s_le (fun kh11 => ?_) (fun kh11 => ?_)
          · have kc12 : (v3 + (1 : Int32)).toInt = (v3).toInt + 1 := a_addl L1 (by omega) (by omega)
            exact hk12 v1 v2 (v3 + (1 : Int32)) m (show (-2 : Int) ≤ v1.toInt ∧ v1.toInt ≤ 13 ∧ 0 ≤ v2.toInt ∧ 0 ≤ (v3 + (1 : Int32)).toInt ∧ (v3 + (1 : Int32)).toInt ≤ 14 ∧ 14 - (v3 + (1 : Int32)).toInt < (Nk12 : Int) by omega) hI hF
          · have kc13 : (v3 + (1 : Int32)).toInt = (v3).toInt + 1 := a_addl L1 (by omega) (by omega)
            exact hk12 v3 v4 (v3 + (1 : Int32)) m (show (-2 : Int) ≤ v3.toInt ∧ v3.toInt ≤ 13 ∧ 0 ≤ v4.toInt ∧ 0 ≤ (v3 + (1 : Int32)).toInt ∧ (v3 + (1 : Int32)).toInt ≤ 14 ∧ 14 - (v3 + (1 : Int32)).toInt < (Nk12 : Int) by omega) hI hF
    · have kx14 : 0 ≤ (v5).toInt ∧ (v5).toInt < (7 : Int) := by omega
      refine s_ix kx14 ?_
      have kc15 : ((v4).toInt < ((m.1 104 (v5).toNatClampNeg)).toInt ∧ (if v4 < (m.1 104 (v5).toNatClampNeg) then (m.1 104 (v5).toNatClampNeg) else v4).toInt = ((m.1 104 (v5).toNatClampNeg)).toInt) ∨ (((m.1 104 (v5).toNatClampNeg)).toInt ≤ (v4).toInt ∧ (if v4 < (m.1 104 (v5).toNatClampNeg) then (m.1 104 (v5).toNatClampNeg) else v4).toInt = (v4).toInt) := a_ilt
      have kc16 : (v5 + (1 : Int32)).toInt = (v5).toInt + 1 := a_addl L1 (by omega) (by omega)
      exact ih v1 v2 v3 (if v4 < (m.1 104 (v5).toNatClampNeg) then (m.1 104 (v5).toNatClampNeg) else v4) (v5 + (1 : Int32)) m (show (-2 : Int) ≤ v1.toInt ∧ v1.toInt ≤ 13 ∧ 0 ≤ v2.toInt ∧ 0 ≤ v3.toInt ∧ v3.toInt ≤ 13 ∧ 0 ≤ (if v4 < (m.1 104 (v5).toNatClampNeg) then (m.1 104 (v5).toNatClampNeg) else v4).toInt ∧ 0 ≤ (v5 + (1 : Int32)).toInt ∧ (v5 + (1 : Int32)).toInt ≤ 7 ∧ v3.toInt < (m.1 72 6).toInt ∧ 7 - (v5 + (1 : Int32)).toInt < (n : Int) ∧ 14 - v3.toInt ≤ (Nk12 : Int) by omega) hI hF
theorem zX12_next_47 (m0 : sm_S) (k12 : Int32 → Int32 → Int32 → sm_S → Option (Int32 × sm_S)) (Nk12 : Nat) (hk12 : ∀ (v1 : Int32) (v2 : Int32) (v3 : Int32) (m : sm_S), ((-2 : Int) ≤ v1.toInt ∧ v1.toInt ≤ 13 ∧ 0 ≤ v2.toInt ∧ 0 ≤ v3.toInt ∧ v3.toInt ≤ 14 ∧ 14 - v3.toInt < (Nk12 : Int)) → zI m → Fr wX12_next m0 m → Sf (fun r => (((-2 : Int) ≤ r.1.toInt) ∧ (r.1.toInt ≤ 13)) ∧ zI r.2 ∧ Fr wX12_next m0 r.2) (k12 v1 v2 v3 m)) : ∀ (n : Nat) (v1 : Int32) (v2 : Int32) (v3 : Int32) (v4 : Int32) (m : sm_S), ((-2 : Int) ≤ v1.toInt ∧ v1.toInt ≤ 13 ∧ 0 ≤ v2.toInt ∧ 0 ≤ v3.toInt ∧ v3.toInt ≤ 13 ∧ 0 ≤ v4.toInt ∧ v4.toInt ≤ 4096 ∧ v3.toInt < (m.1 72 6).toInt ∧ 4096 - v4.toInt < (n : Int) ∧ 14 - v3.toInt ≤ (Nk12 : Int)) → zI m → Fr wX12_next m0 m → Sf (fun r => (((-2 : Int) ≤ r.1.toInt) ∧ (r.1.toInt ≤ 13)) ∧ zI r.2 ∧ Fr wX12_next m0 r.2) (fX12_next_47 k12 n v1 v2 v3 v4 m) := by
  intro n
  induction n with
  | zero =>
    intro v1 v2 v3 v4 m hp hI hF
    have kc1 : 0 ≤ (m.1 72 6).toInt ∧ (m.1 72 6).toInt ≤ 14 := hI.1 72 6
    have kc2 : 0 ≤ (m.1 72 25).toInt ∧ (m.1 72 25).toInt ≤ 14 := hI.1 72 25
    have kc3 := zI.le hI
    have krgv2 := rg v2
    exfalso
    omega
  | succ n ih =>
    intro v1 v2 v3 v4 m hp hI hF
    have hnn : ((n + 1 : Nat) : Int) = (n : Int) + 1 := by omega
    have hfu := fuE
    have kc1 : 0 ≤ (m.1 72 6).toInt ∧ (m.1 72 6).toInt ≤ 14 := hI.1 72 6
    have kc2 : 0 ≤ (m.1 72 25).toInt ∧ (m.1 72 25).toInt ≤ 14 := hI.1 72 25
    have kc3 := zI.le hI
    have krgv2 := rg v2
    unfold fX12_next_47
    have kc4 := L4096
    refine s_le (fun kh5 => ?_) (fun kh5 => ?_)
    · have kc6 := L0
      exact zX12_next_99 m0 k12 Nk12 hk12 sm_fu v1 v2 v3 (0 : Int32) (0 : Int32) m (show (-2 : Int) ≤ v1.toInt ∧ v1.toInt ≤ 13 ∧ 0 ≤ v2.toInt ∧ 0 ≤ v3.toInt ∧ v3.toInt ≤ 13 ∧ 0 ≤ (0 : Int32).toInt ∧ 0 ≤ (0 : Int32).toInt ∧ (0 : Int32).toInt ≤ 7 ∧ v3.toInt < (m.1 72 6).toInt ∧ 7 - (0 : Int32).toInt < (sm_fu : Int) ∧ 14 - v3.toInt ≤ (Nk12 : Int) by omega) hI hF
    · refine s_bd (zX12_over v4 v3 m (show 0 ≤ v4.toInt ∧ v4.toInt ≤ 4095 ∧ 0 ≤ v3.toInt ∧ v3.toInt ≤ 13 by omega) hI) (fun r5 kr7 => ?_)
      replace kr7 : (0 ≤ r5.toInt) ∧ (r5.toInt ≤ 6) := kr7
      have kx8 : 0 ≤ (r5).toInt ∧ (r5).toInt < (7 : Int) := by omega
      refine s_ix kx8 ?_
      refine s_bd (zX12_wrongOf v4 m (show 0 ≤ v4.toInt ∧ v4.toInt ≤ 4095 by omega) hI) (fun r8 kr9 => ?_)
      replace kr9 : (0 ≤ r8.toInt) ∧ (r8.toInt ≤ 4095) := kr9
      have kc10 := L0
      refine s_eq (fun kh11 => ?_) (fun kh11 => ?_)
      · have kc12 := L1
        refine s_bd (zX12_flag (1 : Int32) m (show 0 ≤ (1 : Int32).toInt ∧ (1 : Int32).toInt ≤ 1 by omega) hI) (fun r13 kr13 => ?_)
        replace kr13 : (0 ≤ r13.toInt) ∧ (r13.toInt ≤ 1) ∧ (r13.toInt = (1 : Int32).toInt) := kr13
        refine s_ix kx8 ?_
        have kc14 : (v4 + (1 : Int32)).toInt = (v4).toInt + 1 := a_addl L1 (by omega) (by omega)
        have ki15 : zI (sm_w1 m 104 (r5).toNatClampNeg ((m.1 104 (r5).toNatClampNeg) + r13)) := zI.w hI rfl (rg _)
        have kc16 : 0 ≤ ((sm_w1 m 104 (r5).toNatClampNeg ((m.1 104 (r5).toNatClampNeg) + r13)).1 72 6).toInt ∧ ((sm_w1 m 104 (r5).toNatClampNeg ((m.1 104 (r5).toNatClampNeg) + r13)).1 72 6).toInt ≤ 14 := ki15.1 72 6
        have kc17 : 0 ≤ ((sm_w1 m 104 (r5).toNatClampNeg ((m.1 104 (r5).toNatClampNeg) + r13)).1 72 25).toInt ∧ ((sm_w1 m 104 (r5).toNatClampNeg ((m.1 104 (r5).toNatClampNeg) + r13)).1 72 25).toInt ≤ 14 := ki15.1 72 25
        have kc18 := zI.le ki15
        have kc19 : ((sm_w1 m 104 (r5).toNatClampNeg ((m.1 104 (r5).toNatClampNeg) + r13)).1 72 25).toInt = (m.1 72 25).toInt := congrArg Int32.toInt (r_cell (by decide))
        have kc20 : ((sm_w1 m 104 (r5).toNatClampNeg ((m.1 104 (r5).toNatClampNeg) + r13)).1 72 6).toInt = (m.1 72 6).toInt := congrArg Int32.toInt (r_cell (by decide))
        have kf21 : Fr wX12_next m0 (sm_w1 m 104 (r5).toNatClampNeg ((m.1 104 (r5).toNatClampNeg) + r13)) := Fr.w hF rfl
        exact ih v1 v2 v3 (v4 + (1 : Int32)) (sm_w1 m 104 (r5).toNatClampNeg ((m.1 104 (r5).toNatClampNeg) + r13)) (show (-2 : Int) ≤ v1.toInt ∧ v1.toInt ≤ 13 ∧ 0 ≤ v2.toInt ∧ 0 ≤ v3.toInt ∧ v3.toInt ≤ 13 ∧ 0 ≤ (v4 + (1 : Int32)).toInt ∧ (v4 + (1 : Int32)).toInt ≤ 4096 ∧ v3.toInt < ((sm_w1 m 104 (r5).toNatClampNeg ((m.1 104 (r5).toNatClampNeg) + r13)).1 72 6).toInt ∧ 4096 - (v4 + (1 : Int32)).toInt < (n : Int) ∧ 14 - v3.toInt ≤ (Nk12 : Int) by omega) ki15 kf21
      · refine s_bd (zX12_flag (0 : Int32) m (show 0 ≤ (0 : Int32).toInt ∧ (0 : Int32).toInt ≤ 1 by omega) hI) (fun r10 kr22 => ?_)
        replace kr22 : (0 ≤ r10.toInt) ∧ (r10.toInt ≤ 1) ∧ (r10.toInt = (0 : Int32).toInt) := kr22
        refine s_ix kx8 ?_
        have kc23 : (v4 + (1 : Int32)).toInt = (v4).toInt + 1 := a_addl L1 (by omega) (by omega)
        have kc24 := rg (m.1 104 (r5).toNatClampNeg)
        have kc25 : ((m.1 104 (r5).toNatClampNeg) + r10).toInt = ((m.1 104 (r5).toNatClampNeg)).toInt + (r10).toInt := a_add (by omega) (by omega)
        have ki26 : zI (sm_w1 m 104 (r5).toNatClampNeg ((m.1 104 (r5).toNatClampNeg) + r10)) := zI.w hI rfl (rg _)
        have kc27 : 0 ≤ ((sm_w1 m 104 (r5).toNatClampNeg ((m.1 104 (r5).toNatClampNeg) + r10)).1 72 6).toInt ∧ ((sm_w1 m 104 (r5).toNatClampNeg ((m.1 104 (r5).toNatClampNeg) + r10)).1 72 6).toInt ≤ 14 := ki26.1 72 6
        have kc28 : 0 ≤ ((sm_w1 m 104 (r5).toNatClampNeg ((m.1 104 (r5).toNatClampNeg) + r10)).1 72 25).toInt ∧ ((sm_w1 m 104 (r5).toNatClampNeg ((m.1 104 (r5).toNatClampNeg) + r10)).1 72 25).toInt ≤ 14 := ki26.1 72 25
        have kc29 := zI.le ki26
        have kc30 : ((sm_w1 m 104 (r5).toNatClampNeg ((m.1 104 (r5).toNatClampNeg) + r10)).1 72 25).toInt = (m.1 72 25).toInt := congrArg Int32.toInt (r_cell (by decide))
        have kc31 : ((sm_w1 m 104 (r5).toNatClampNeg ((m.1 104 (r5).toNatClampNeg) + r10)).1 72 6).toInt = (m.1 72 6).toInt := congrArg Int32.toInt (r_cell (by decide))
        have kf32 : Fr wX12_next m0 (sm_w1 m 104 (r5).toNatClampNeg ((m.1 104 (r5).toNatClampNeg) + r10)) := Fr.w hF rfl
        exact ih v1 v2 v3 (v4 + (1 : Int32)) (sm_w1 m 104 (r5).toNatClampNeg ((m.1 104 (r5).toNatClampNeg) + r10)) (show (-2 : Int) ≤ v1.toInt ∧ v1.toInt ≤ 13 ∧ 0 ≤ v2.toInt ∧ 0 ≤ v3.toInt ∧ v3.toInt ≤ 13 ∧ 0 ≤ (v4 + (1 : Int32)).toInt ∧ (v4 + (1 : Int32)).toInt ≤ 4096 ∧ v3.toInt < ((sm_w1 m 104 (r5).toNatClampNeg ((m.1 104 (r5).toNatClampNeg) + r10)).1 72 6).toInt ∧ 4096 - (v4 + (1 : Int32)).toInt < (n : Int) ∧ 14 - v3.toInt ≤ (Nk12 : Int) by omega) ki26 kf32
theorem zX12_next_23 (m0 : sm_S) (k12 : Int32 → Int32 → Int32 → sm_S → Option (Int32 × sm_S)) (Nk12 : Nat) (hk12 : ∀ (v1 : Int32) (v2 : Int32) (v3 : Int32) (m : sm_S), ((-2 : Int) ≤ v1.toInt ∧ v1.toInt ≤ 13 ∧ 0 ≤ v2.toInt ∧ 0 ≤ v3.toInt ∧ v3.toInt ≤ 14 ∧ 14 - v3.toInt < (Nk12 : Int)) → zI m → Fr wX12_next m0 m → Sf (fun r => (((-2 : Int) ≤ r.1.toInt) ∧ (r.1.toInt ≤ 13)) ∧ zI r.2 ∧ Fr wX12_next m0 r.2) (k12 v1 v2 v3 m)) : ∀ (n : Nat) (v1 : Int32) (v2 : Int32) (v3 : Int32) (v4 : Int32) (m : sm_S), ((-2 : Int) ≤ v1.toInt ∧ v1.toInt ≤ 13 ∧ 0 ≤ v2.toInt ∧ 0 ≤ v3.toInt ∧ v3.toInt ≤ 13 ∧ 0 ≤ v4.toInt ∧ v4.toInt ≤ 7 ∧ v3.toInt < (m.1 72 6).toInt ∧ 7 - v4.toInt < (n : Int) ∧ 14 - v3.toInt ≤ (Nk12 : Int)) → zI m → Fr wX12_next m0 m → Sf (fun r => (((-2 : Int) ≤ r.1.toInt) ∧ (r.1.toInt ≤ 13)) ∧ zI r.2 ∧ Fr wX12_next m0 r.2) (fX12_next_23 k12 n v1 v2 v3 v4 m) := by
  intro n
  induction n with
  | zero =>
    intro v1 v2 v3 v4 m hp hI hF
    have kc1 : 0 ≤ (m.1 72 6).toInt ∧ (m.1 72 6).toInt ≤ 14 := hI.1 72 6
    have kc2 : 0 ≤ (m.1 72 25).toInt ∧ (m.1 72 25).toInt ≤ 14 := hI.1 72 25
    have kc3 := zI.le hI
    have krgv2 := rg v2
    exfalso
    omega
  | succ n ih =>
    intro v1 v2 v3 v4 m hp hI hF
    have hnn : ((n + 1 : Nat) : Int) = (n : Int) + 1 := by omega
    have hfu := fuE
    have kc1 : 0 ≤ (m.1 72 6).toInt ∧ (m.1 72 6).toInt ≤ 14 := hI.1 72 6
    have kc2 : 0 ≤ (m.1 72 25).toInt ∧ (m.1 72 25).toInt ≤ 14 := hI.1 72 25
    have kc3 := zI.le hI
    have krgv2 := rg v2
    unfold fX12_next_23
    have kc4 := L7
    refine s_le (fun kh5 => ?_) (fun kh5 => ?_)
    · have kc6 := L0
      exact zX12_next_47 m0 k12 Nk12 hk12 sm_fu v1 v2 v3 (0 : Int32) m (show (-2 : Int) ≤ v1.toInt ∧ v1.toInt ≤ 13 ∧ 0 ≤ v2.toInt ∧ 0 ≤ v3.toInt ∧ v3.toInt ≤ 13 ∧ 0 ≤ (0 : Int32).toInt ∧ (0 : Int32).toInt ≤ 4096 ∧ v3.toInt < (m.1 72 6).toInt ∧ 4096 - (0 : Int32).toInt < (sm_fu : Int) ∧ 14 - v3.toInt ≤ (Nk12 : Int) by omega) hI hF
    · have kx7 : 0 ≤ (v4).toInt ∧ (v4).toInt < (7 : Int) := by omega
      refine s_ix kx7 ?_
      have kc8 : (v4 + (1 : Int32)).toInt = (v4).toInt + 1 := a_addl L1 (by omega) (by omega)
      have kc9 := L0
      have ki10 : zI (sm_w1 m 104 (v4).toNatClampNeg (0 : Int32)) := zI.w hI rfl (rg _)
      have kc11 : 0 ≤ ((sm_w1 m 104 (v4).toNatClampNeg (0 : Int32)).1 72 6).toInt ∧ ((sm_w1 m 104 (v4).toNatClampNeg (0 : Int32)).1 72 6).toInt ≤ 14 := ki10.1 72 6
      have kc12 : 0 ≤ ((sm_w1 m 104 (v4).toNatClampNeg (0 : Int32)).1 72 25).toInt ∧ ((sm_w1 m 104 (v4).toNatClampNeg (0 : Int32)).1 72 25).toInt ≤ 14 := ki10.1 72 25
      have kc13 := zI.le ki10
      have kc14 : ((sm_w1 m 104 (v4).toNatClampNeg (0 : Int32)).1 72 25).toInt = (m.1 72 25).toInt := congrArg Int32.toInt (r_cell (by decide))
      have kc15 : ((sm_w1 m 104 (v4).toNatClampNeg (0 : Int32)).1 72 6).toInt = (m.1 72 6).toInt := congrArg Int32.toInt (r_cell (by decide))
      have kf16 : Fr wX12_next m0 (sm_w1 m 104 (v4).toNatClampNeg (0 : Int32)) := Fr.w hF rfl
      exact ih v1 v2 v3 (v4 + (1 : Int32)) (sm_w1 m 104 (v4).toNatClampNeg (0 : Int32)) (show (-2 : Int) ≤ v1.toInt ∧ v1.toInt ≤ 13 ∧ 0 ≤ v2.toInt ∧ 0 ≤ v3.toInt ∧ v3.toInt ≤ 13 ∧ 0 ≤ (v4 + (1 : Int32)).toInt ∧ (v4 + (1 : Int32)).toInt ≤ 7 ∧ v3.toInt < ((sm_w1 m 104 (v4).toNatClampNeg (0 : Int32)).1 72 6).toInt ∧ 7 - (v4 + (1 : Int32)).toInt < (n : Int) ∧ 14 - v3.toInt ≤ (Nk12 : Int) by omega) ki10 kf16
theorem zX12_next_12 (m0 : sm_S) : ∀ (n : Nat) (v1 : Int32) (v2 : Int32) (v3 : Int32) (m : sm_S), ((-2 : Int) ≤ v1.toInt ∧ v1.toInt ≤ 13 ∧ 0 ≤ v2.toInt ∧ 0 ≤ v3.toInt ∧ v3.toInt ≤ 14 ∧ 14 - v3.toInt < (n : Int)) → zI m → Fr wX12_next m0 m → Sf (fun r => (((-2 : Int) ≤ r.1.toInt) ∧ (r.1.toInt ≤ 13)) ∧ zI r.2 ∧ Fr wX12_next m0 r.2) (fX12_next_12 n v1 v2 v3 m) := by
  intro n
  induction n with
  | zero =>
    intro v1 v2 v3 m hp hI hF
    have krgv2 := rg v2
    exfalso
    omega
  | succ n ih =>
    intro v1 v2 v3 m hp hI hF
    have hnn : ((n + 1 : Nat) : Int) = (n : Int) + 1 := by omega
    have hfu := fuE
    have krgv2 := rg v2
    unfold fX12_next_12
    have kc1 : 0 ≤ (m.1 72 6).toInt ∧ (m.1 72 6).toInt ≤ 14 := hI.1 72 6
    have kc2 : 0 ≤ (m.1 72 25).toInt ∧ (m.1 72 25).toInt ≤ 14 := hI.1 72 25
    have kc3 := zI.le hI
    refine s_le (fun kh4 => ?_) (fun kh4 => ?_)
    · have kc5 := L0
      refine s_le (fun kh6 => ?_) (fun kh6 => ?_)
      · have ki7 : zI (sm_w1 m 72 1 (0 : Int32)) := zI.w hI rfl (show 0 ≤ ((0 : Int32)).toInt ∧ ((0 : Int32)).toInt ≤ 24 by omega)
        have kc8 : 0 ≤ ((sm_w1 m 72 1 (0 : Int32)).1 72 1).toInt ∧ ((sm_w1 m 72 1 (0 : Int32)).1 72 1).toInt ≤ 24 := ki7.1 72 1
        have kc9 : ((sm_w1 m 72 1 (0 : Int32)).1 72 1).toInt = ((0 : Int32)).toInt := rfl
        refine s_bd (zX12_enters v2 (sm_w1 m 72 1 (0 : Int32)) (show ((sm_w1 m 72 1 (0 : Int32)).1 72 1).toInt ≤ 23 by omega) ki7) (fun m2 kr10 => ?_)
        obtain ⟨kp11, ki12, kf13⟩ := kr10
        replace kp11 : ((m2.1 72 1).toInt = ((sm_w1 m 72 1 (0 : Int32)).1 72 1).toInt + 1) := kp11
        have kc14 : 0 ≤ (m2.1 72 1).toInt ∧ (m2.1 72 1).toInt ≤ 24 := ki12.1 72 1
        have kf15 : Fr wX12_next m0 (sm_w1 m 72 1 (0 : Int32)) := Fr.w hF rfl
        have kf16 : Fr wX12_next m0 m2 := Fr.trans kf15 kf13 rfl
        exact s_ret ⟨(show ((-2 : Int) ≤ v1.toInt) ∧ (v1.toInt ≤ 13) by omega), ki12, kf16⟩
      · have kc17 := Ln2
        exact s_ret ⟨(show ((-2 : Int) ≤ (-2 : Int32).toInt) ∧ ((-2 : Int32).toInt ≤ 13) by omega), hI, hF⟩
    · have kc18 := L0
      exact zX12_next_23 m0 (fX12_next_12 n) n ih sm_fu v1 v2 v3 (0 : Int32) m (show (-2 : Int) ≤ v1.toInt ∧ v1.toInt ≤ 13 ∧ 0 ≤ v2.toInt ∧ 0 ≤ v3.toInt ∧ v3.toInt ≤ 13 ∧ 0 ≤ (0 : Int32).toInt ∧ (0 : Int32).toInt ≤ 7 ∧ v3.toInt < (m.1 72 6).toInt ∧ 7 - (0 : Int32).toInt < (sm_fu : Int) ∧ 14 - v3.toInt ≤ (n : Int) by omega) hI hF
theorem zX12_next (m : sm_S) (hI : zI m) : Sf (fun r => (((-2 : Int) ≤ r.1.toInt) ∧ (r.1.toInt ≤ 13)) ∧ zI r.2 ∧ Fr wX12_next m r.2) (fX12_next m) := by
  have hfu := fuE
  unfold fX12_next
  have kc1 := Ln2
  have kc2 := L0
  have ki3 : zI (sm_w1 m 72 0 (0 : Int32)) := zI.w hI rfl (show 0 ≤ ((0 : Int32)).toInt ∧ ((0 : Int32)).toInt ≤ 1 by omega)
  have kf4 : Fr wX12_next m (sm_w1 m 72 0 (0 : Int32)) := Fr.w Fr.refl rfl
  exact zX12_next_12 m sm_fu (-2 : Int32) (0 : Int32) (0 : Int32) (sm_w1 m 72 0 (0 : Int32)) (show (-2 : Int) ≤ (-2 : Int32).toInt ∧ (-2 : Int32).toInt ≤ 13 ∧ 0 ≤ (0 : Int32).toInt ∧ 0 ≤ (0 : Int32).toInt ∧ (0 : Int32).toInt ≤ 14 ∧ 14 - (0 : Int32).toInt < (sm_fu : Int) by omega) ki3 kf4
theorem zX12_lies_16 (m0 : sm_S) : ∀ (n : Nat) (v1 : Int32) (v2 : Int32) (m : sm_S), (0 ≤ v1.toInt ∧ v1.toInt ≤ 4095 ∧ 0 ≤ v2.toInt ∧ v2.toInt ≤ 4096 ∧ 4096 - v2.toInt < (n : Int)) → zI m → Fr wX12_lies m0 m → Sf (fun r => ((0 ≤ r.1.toInt) ∧ (r.1.toInt ≤ 63)) ∧ zI r.2 ∧ Fr wX12_lies m0 r.2) (fX12_lies_16 n v1 v2 m) := by
  intro n
  induction n with
  | zero =>
    intro v1 v2 m hp hI hF
    exfalso
    omega
  | succ n ih =>
    intro v1 v2 m hp hI hF
    have hnn : ((n + 1 : Nat) : Int) = (n : Int) + 1 := by omega
    have hfu := fuE
    unfold fX12_lies_16
    have kc1 := L4096
    refine s_le (fun kh2 => ?_) (fun kh2 => ?_)
    · have kc3 := L0
      have ki4 : zI (sm_w1 m 72 1 (0 : Int32)) := zI.w hI rfl (show 0 ≤ ((0 : Int32)).toInt ∧ ((0 : Int32)).toInt ≤ 24 by omega)
      have kc5 : 0 ≤ ((sm_w1 m 72 1 (0 : Int32)).1 72 1).toInt ∧ ((sm_w1 m 72 1 (0 : Int32)).1 72 1).toInt ≤ 24 := ki4.1 72 1
      have kc6 : ((sm_w1 m 72 1 (0 : Int32)).1 72 1).toInt = ((0 : Int32)).toInt := rfl
      refine s_bd (zX12_enters v1 (sm_w1 m 72 1 (0 : Int32)) (show ((sm_w1 m 72 1 (0 : Int32)).1 72 1).toInt ≤ 23 by omega) ki4) (fun m2 kr7 => ?_)
      obtain ⟨kp8, ki9, kf10⟩ := kr7
      replace kp8 : ((m2.1 72 1).toInt = ((sm_w1 m 72 1 (0 : Int32)).1 72 1).toInt + 1) := kp8
      have kc11 : 0 ≤ (m2.1 72 1).toInt ∧ (m2.1 72 1).toInt ≤ 24 := ki9.1 72 1
      refine s_bd (zJ6_bitCount_0f7a4 v1 m2 (show 0 ≤ v1.toInt ∧ v1.toInt ≤ 16383 by omega) ki9) (fun r4 kr12 => ?_)
      replace kr12 : (0 ≤ r4.toInt) ∧ (r4.toInt ≤ 63) := kr12
      have kf13 : Fr wX12_lies m0 (sm_w1 m 72 1 (0 : Int32)) := Fr.w hF rfl
      have kf14 : Fr wX12_lies m0 m2 := Fr.trans kf13 kf10 rfl
      exact s_ret ⟨(show (0 ≤ r4.toInt) ∧ (r4.toInt ≤ 63) by omega), ki9, kf14⟩
    · refine s_bd (zX12_wrongOf v2 m (show 0 ≤ v2.toInt ∧ v2.toInt ≤ 4095 by omega) hI) (fun r6 kr15 => ?_)
      replace kr15 : (0 ≤ r6.toInt) ∧ (r6.toInt ≤ 4095) := kr15
      refine s_bd (zJ6_bitCount_0f7a4 r6 m (show 0 ≤ r6.toInt ∧ r6.toInt ≤ 16383 by omega) hI) (fun r8 kr16 => ?_)
      replace kr16 : (0 ≤ r8.toInt) ∧ (r8.toInt ≤ 63) := kr16
      refine s_bd (zJ6_bitCount_0f7a4 v1 m (show 0 ≤ v1.toInt ∧ v1.toInt ≤ 16383 by omega) hI) (fun r10 kr17 => ?_)
      replace kr17 : (0 ≤ r10.toInt) ∧ (r10.toInt ≤ 63) := kr17
      have kc18 : (r8 - r10).toInt = (r8).toInt - (r10).toInt := a_sub (by omega) (by omega)
      have kc19 := L0
      refine s_lt (fun kh20 => ?_) (fun kh20 => ?_)
      · have kc21 : (v2 + (1 : Int32)).toInt = (v2).toInt + 1 := a_addl L1 (by omega) (by omega)
        exact ih r6 (v2 + (1 : Int32)) m (show 0 ≤ r6.toInt ∧ r6.toInt ≤ 4095 ∧ 0 ≤ (v2 + (1 : Int32)).toInt ∧ (v2 + (1 : Int32)).toInt ≤ 4096 ∧ 4096 - (v2 + (1 : Int32)).toInt < (n : Int) by omega) hI hF
      · refine s_eq (fun kh22 => ?_) (fun kh22 => ?_)
        · refine s_le (fun kh23 => ?_) (fun kh23 => ?_)
          · have kc24 : (v2 + (1 : Int32)).toInt = (v2).toInt + 1 := a_addl L1 (by omega) (by omega)
            exact ih v1 (v2 + (1 : Int32)) m (show 0 ≤ v1.toInt ∧ v1.toInt ≤ 4095 ∧ 0 ≤ (v2 + (1 : Int32)).toInt ∧ (v2 + (1 : Int32)).toInt ≤ 4096 ∧ 4096 - (v2 + (1 : Int32)).toInt < (n : Int) by omega) hI hF
          · have kc25 : (v2 + (1 : Int32)).toInt = (v2).toInt + 1 := a_addl L1 (by omega) (by omega)
            exact ih r6 (v2 + (1 : Int32)) m (show 0 ≤ r6.toInt ∧ r6.toInt ≤ 4095 ∧ 0 ≤ (v2 + (1 : Int32)).toInt ∧ (v2 + (1 : Int32)).toInt ≤ 4096 ∧ 4096 - (v2 + (1 : Int32)).toInt < (n : Int) by omega) hI hF
        · have kc26 : (v2 + (1 : Int32)).toInt = (v2).toInt + 1 := a_addl L1 (by omega) (by omega)
          exact ih v1 (v2 + (1 : Int32)) m (show 0 ≤ v1.toInt ∧ v1.toInt ≤ 4095 ∧ 0 ≤ (v2 + (1 : Int32)).toInt ∧ (v2 + (1 : Int32)).toInt ≤ 4096 ∧ 4096 - (v2 + (1 : Int32)).toInt < (n : Int) by omega) hI hF
theorem zX12_lies (m : sm_S) (hI : zI m) : Sf (fun r => ((0 ≤ r.1.toInt) ∧ (r.1.toInt ≤ 63)) ∧ zI r.2 ∧ Fr wX12_lies m r.2) (fX12_lies m) := by
  have hfu := fuE
  unfold fX12_lies
  have kc1 := L1
  have kc2 : 0 ≤ (m.1 72 51).toInt ∧ (m.1 72 51).toInt ≤ 12 := hI.1 72 51
  have kc3 := L31
  have kc4 : 0 ≤ ((m.1 72 51) &&& (31 : Int32)).toInt ∧ ((m.1 72 51) &&& (31 : Int32)).toInt ≤ ((31 : Int32)).toInt := a_andr (by omega)
  have kc5 : 0 ≤ ((m.1 72 51) &&& (31 : Int32)).toInt ∧ ((m.1 72 51) &&& (31 : Int32)).toInt ≤ ((m.1 72 51)).toInt := a_andl (by omega)
  have kc6 : 1 ≤ ((1 : Int32) <<< ((m.1 72 51) &&& (31 : Int32))).toInt ∧ ((1 : Int32) <<< ((m.1 72 51) &&& (31 : Int32))).toInt ≤ 4096 := a_shl 12 (by decide) (by decide) (by omega) (by omega)
  have kc7 : (((1 : Int32) <<< ((m.1 72 51) &&& (31 : Int32))) - (1 : Int32)).toInt = (((1 : Int32) <<< ((m.1 72 51) &&& (31 : Int32)))).toInt - 1 := a_subl L1 (by omega) (by omega)
  have kc8 := L0
  have ki9 : zI (sm_w1 m 72 0 (0 : Int32)) := zI.w hI rfl (show 0 ≤ ((0 : Int32)).toInt ∧ ((0 : Int32)).toInt ≤ 1 by omega)
  have kf10 : Fr wX12_lies m (sm_w1 m 72 0 (0 : Int32)) := Fr.w Fr.refl rfl
  exact zX12_lies_16 m sm_fu (((1 : Int32) <<< ((m.1 72 51) &&& (31 : Int32))) - (1 : Int32)) (0 : Int32) (sm_w1 m 72 0 (0 : Int32)) (show 0 ≤ (((1 : Int32) <<< ((m.1 72 51) &&& (31 : Int32))) - (1 : Int32)).toInt ∧ (((1 : Int32) <<< ((m.1 72 51) &&& (31 : Int32))) - (1 : Int32)).toInt ≤ 4095 ∧ 0 ≤ (0 : Int32).toInt ∧ (0 : Int32).toInt ≤ 4096 ∧ 4096 - (0 : Int32).toInt < (sm_fu : Int) by omega) ki9 kf10
theorem zX12_holds_2 : ∀ (n : Nat) (v1 : Int32) (v2 : Int32) (m : sm_S), (0 ≤ v2.toInt ∧ v2.toInt ≤ 4096 ∧ 4096 - v2.toInt < (n : Int)) → zI m → Sf (fun r => (0 ≤ r.toInt) ∧ (r.toInt ≤ 1)) (fX12_holds_2 n v1 v2 m) := by
  intro n
  induction n with
  | zero =>
    intro v1 v2 m hp hI
    exfalso
    omega
  | succ n ih =>
    intro v1 v2 m hp hI
    have hnn : ((n + 1 : Nat) : Int) = (n : Int) + 1 := by omega
    have hfu := fuE
    unfold fX12_holds_2
    have kc1 := L4096
    refine s_le (fun kh2 => ?_) (fun kh2 => ?_)
    · have kc3 := L0
      exact s_ret (show (0 ≤ (0 : Int32).toInt) ∧ ((0 : Int32).toInt ≤ 1) by omega)
    · refine s_bd (zX12_wrongOf v2 m (show 0 ≤ v2.toInt ∧ v2.toInt ≤ 4095 by omega) hI) (fun r2 kr4 => ?_)
      replace kr4 : (0 ≤ r2.toInt) ∧ (r2.toInt ≤ 4095) := kr4
      have kc5 : 0 ≤ (r2 &&& v1).toInt ∧ (r2 &&& v1).toInt ≤ (r2).toInt := a_andl (by omega)
      have kc6 := L0
      refine s_eq (fun kh7 => ?_) (fun kh7 => ?_)
      · have kc8 := L1
        exact s_ret (show (0 ≤ (1 : Int32).toInt) ∧ ((1 : Int32).toInt ≤ 1) by omega)
      · have kc9 : (v2 + (1 : Int32)).toInt = (v2).toInt + 1 := a_addl L1 (by omega) (by omega)
        exact ih v1 (v2 + (1 : Int32)) m (show 0 ≤ (v2 + (1 : Int32)).toInt ∧ (v2 + (1 : Int32)).toInt ≤ 4096 ∧ 4096 - (v2 + (1 : Int32)).toInt < (n : Int) by omega) hI
theorem zX12_holds (x1 : Int32) (m : sm_S) (hI : zI m) : Sf (fun r => (0 ≤ r.toInt) ∧ (r.toInt ≤ 1)) (fX12_holds x1 m) := by
  have hfu := fuE
  unfold fX12_holds
  have kc1 := L0
  exact zX12_holds_2 sm_fu x1 (0 : Int32) m (show 0 ≤ (0 : Int32).toInt ∧ (0 : Int32).toInt ≤ 4096 ∧ 4096 - (0 : Int32).toInt < (sm_fu : Int) by omega) hI
theorem zX12_quarrel_50 (m0 : sm_S) : ∀ (n : Nat) (v1 : Int32) (v2 : Int32) (v3 : Int32) (m : sm_S), (0 ≤ v1.toInt ∧ v1.toInt ≤ 12 ∧ (-1 : Int) ≤ v2.toInt ∧ v2.toInt ≤ 11 ∧ (-1 : Int) ≤ v3.toInt ∧ v3.toInt ≤ 11 ∧ v3.toInt + 1 < (n : Int)) → zI m → Fr wX12_quarrel m0 m → Sf (fun r => (((-2 : Int) ≤ r.1.toInt) ∧ (r.1.toInt ≤ 12)) ∧ zI r.2 ∧ Fr wX12_quarrel m0 r.2) (fX12_quarrel_50 n v1 v2 v3 m) := by
  intro n
  induction n with
  | zero =>
    intro v1 v2 v3 m hp hI hF
    exfalso
    omega
  | succ n ih =>
    intro v1 v2 v3 m hp hI hF
    have hnn : ((n + 1 : Nat) : Int) = (n : Int) + 1 := by omega
    have hfu := fuE
    unfold fX12_quarrel_50
    simp only [a_m1, a_m8]
    have kc1 := L0
    refine s_lt (fun kh2 => ?_) (fun kh2 => ?_)
    · have ki3 : zI (sm_w1 m 72 1 (0 : Int32)) := zI.w hI rfl (show 0 ≤ ((0 : Int32)).toInt ∧ ((0 : Int32)).toInt ≤ 24 by omega)
      have kc4 : 0 ≤ ((sm_w1 m 72 1 (0 : Int32)).1 72 1).toInt ∧ ((sm_w1 m 72 1 (0 : Int32)).1 72 1).toInt ≤ 24 := ki3.1 72 1
      have kc5 : ((sm_w1 m 72 1 (0 : Int32)).1 72 1).toInt = ((0 : Int32)).toInt := rfl
      refine s_bd (zX12_enters v2 (sm_w1 m 72 1 (0 : Int32)) (show ((sm_w1 m 72 1 (0 : Int32)).1 72 1).toInt ≤ 23 by omega) ki3) (fun m2 kr6 => ?_)
      obtain ⟨kp7, ki8, kf9⟩ := kr6
      replace kp7 : ((m2.1 72 1).toInt = ((sm_w1 m 72 1 (0 : Int32)).1 72 1).toInt + 1) := kp7
      have kc10 : 0 ≤ (m2.1 72 1).toInt ∧ (m2.1 72 1).toInt ≤ 24 := ki8.1 72 1
      have kf11 : Fr wX12_quarrel m0 (sm_w1 m 72 1 (0 : Int32)) := Fr.w hF rfl
      have kf12 : Fr wX12_quarrel m0 m2 := Fr.trans kf11 kf9 rfl
      exact s_ret ⟨(show ((-2 : Int) ≤ v1.toInt) ∧ (v1.toInt ≤ 12) by omega), ki8, kf12⟩
    · refine s_bd (zX12_holds (((1 : Int32) <<< (v1 &&& (31 : Int32))) ||| ((1 : Int32) <<< (v3 &&& (31 : Int32)))) m hI) (fun r4 kr13 => ?_)
      replace kr13 : (0 ≤ r4.toInt) ∧ (r4.toInt ≤ 1) := kr13
      refine s_eq (fun kh14 => ?_) (fun kh14 => ?_)
      · have kc15 : (v3 - (1 : Int32)).toInt = (v3).toInt - 1 := a_subl L1 (by omega) (by omega)
        exact ih v1 v3 (v3 - (1 : Int32)) m (show 0 ≤ v1.toInt ∧ v1.toInt ≤ 12 ∧ (-1 : Int) ≤ v3.toInt ∧ v3.toInt ≤ 11 ∧ (-1 : Int) ≤ (v3 - (1 : Int32)).toInt ∧ (v3 - (1 : Int32)).toInt ≤ 11 ∧ (v3 - (1 : Int32)).toInt + 1 < (n : Int) by omega) hI hF
      · have kc16 : (v3 - (1 : Int32)).toInt = (v3).toInt - 1 := a_subl L1 (by omega) (by omega)
        exact ih v1 v2 (v3 - (1 : Int32)) m (show 0 ≤ v1.toInt ∧ v1.toInt ≤ 12 ∧ (-1 : Int) ≤ v2.toInt ∧ v2.toInt ≤ 11 ∧ (-1 : Int) ≤ (v3 - (1 : Int32)).toInt ∧ (v3 - (1 : Int32)).toInt ≤ 11 ∧ (v3 - (1 : Int32)).toInt + 1 < (n : Int) by omega) hI hF
theorem zX12_quarrel_7 (m0 : sm_S) : ∀ (n : Nat) (v1 : Int32) (m : sm_S), (0 ≤ v1.toInt ∧ v1.toInt ≤ 12 ∧ 12 - v1.toInt < (n : Int)) → zI m → Fr wX12_quarrel m0 m → Sf (fun r => (((-2 : Int) ≤ r.1.toInt) ∧ (r.1.toInt ≤ 12)) ∧ zI r.2 ∧ Fr wX12_quarrel m0 r.2) (fX12_quarrel_7 n v1 m) := by
  intro n
  induction n with
  | zero =>
    intro v1 m hp hI hF
    exfalso
    omega
  | succ n ih =>
    intro v1 m hp hI hF
    have hnn : ((n + 1 : Nat) : Int) = (n : Int) + 1 := by omega
    have hfu := fuE
    unfold fX12_quarrel_7
    have kc1 : 0 ≤ (m.1 72 51).toInt ∧ (m.1 72 51).toInt ≤ 12 := hI.1 72 51
    refine s_le (fun kh2 => ?_) (fun kh2 => ?_)
    · refine s_eq (fun kh3 => ?_) (fun kh3 => ?_)
      · have kc4 := Ln2
        exact s_ret ⟨(show ((-2 : Int) ≤ (-2 : Int32).toInt) ∧ ((-2 : Int32).toInt ≤ 12) by omega), hI, hF⟩
      · have kc5 := Ln1
        have kc6 : (v1 - (1 : Int32)).toInt = (v1).toInt - 1 := a_subl L1 (by omega) (by omega)
        exact zX12_quarrel_50 m0 sm_fu v1 (-1 : Int32) (v1 - (1 : Int32)) m (show 0 ≤ v1.toInt ∧ v1.toInt ≤ 12 ∧ (-1 : Int) ≤ (-1 : Int32).toInt ∧ (-1 : Int32).toInt ≤ 11 ∧ (-1 : Int) ≤ (v1 - (1 : Int32)).toInt ∧ (v1 - (1 : Int32)).toInt ≤ 11 ∧ (v1 - (1 : Int32)).toInt + 1 < (sm_fu : Int) by omega) hI hF
    · refine s_bd (zX12_holds (((2 : Int32) <<< (v1 &&& (31 : Int32))) - (1 : Int32)) m hI) (fun r6 kr7 => ?_)
      replace kr7 : (0 ≤ r6.toInt) ∧ (r6.toInt ≤ 1) := kr7
      have kc8 := L0
      refine s_eq (fun kh9 => ?_) (fun kh9 => ?_)
      · refine s_eq (fun kh10 => ?_) (fun kh10 => ?_)
        · have kc11 := Ln2
          exact s_ret ⟨(show ((-2 : Int) ≤ (-2 : Int32).toInt) ∧ ((-2 : Int32).toInt ≤ 12) by omega), hI, hF⟩
        · have kc12 := Ln1
          have kc13 : (v1 - (1 : Int32)).toInt = (v1).toInt - 1 := a_subl L1 (by omega) (by omega)
          exact zX12_quarrel_50 m0 sm_fu v1 (-1 : Int32) (v1 - (1 : Int32)) m (show 0 ≤ v1.toInt ∧ v1.toInt ≤ 12 ∧ (-1 : Int) ≤ (-1 : Int32).toInt ∧ (-1 : Int32).toInt ≤ 11 ∧ (-1 : Int) ≤ (v1 - (1 : Int32)).toInt ∧ (v1 - (1 : Int32)).toInt ≤ 11 ∧ (v1 - (1 : Int32)).toInt + 1 < (sm_fu : Int) by omega) hI hF
      · have kc14 : (v1 + (1 : Int32)).toInt = (v1).toInt + 1 := a_addl L1 (by omega) (by omega)
        exact ih (v1 + (1 : Int32)) m (show 0 ≤ (v1 + (1 : Int32)).toInt ∧ (v1 + (1 : Int32)).toInt ≤ 12 ∧ 12 - (v1 + (1 : Int32)).toInt < (n : Int) by omega) hI hF
theorem zX12_quarrel (m : sm_S) (hI : zI m) : Sf (fun r => (((-2 : Int) ≤ r.1.toInt) ∧ (r.1.toInt ≤ 12)) ∧ zI r.2 ∧ Fr wX12_quarrel m r.2) (fX12_quarrel m) := by
  have hfu := fuE
  unfold fX12_quarrel
  have kc1 := L0
  have ki2 : zI (sm_w1 m 72 0 (0 : Int32)) := zI.w hI rfl (show 0 ≤ ((0 : Int32)).toInt ∧ ((0 : Int32)).toInt ≤ 1 by omega)
  have kf3 : Fr wX12_quarrel m (sm_w1 m 72 0 (0 : Int32)) := Fr.w Fr.refl rfl
  exact zX12_quarrel_7 m sm_fu (0 : Int32) (sm_w1 m 72 0 (0 : Int32)) (show 0 ≤ (0 : Int32).toInt ∧ (0 : Int32).toInt ≤ 12 ∧ 12 - (0 : Int32).toInt < (sm_fu : Int) by omega) ki2 kf3
theorem zX12_keep_55 (m0 : sm_S) : ∀ (n : Nat) (v2 : Int32) (v3 : Int32) (m : sm_S), (0 ≤ v2.toInt ∧ v2.toInt ≤ 32 ∧ 0 ≤ v3.toInt ∧ v3.toInt ≤ 14 ∧ 14 - v3.toInt < (n : Int) ∧ v2.toInt % 16 = 0) → zI m → Fr wX12_keep m0 m → Sf (fun r => ((0 ≤ r.1.toInt) ∧ (r.1.toInt ≤ 1)) ∧ zI r.2 ∧ Fr wX12_keep m0 r.2) (fX12_keep_55 n v2 v3 m) := by
  intro n
  induction n with
  | zero =>
    intro v2 v3 m hp hI hF
    exfalso
    omega
  | succ n ih =>
    intro v2 v3 m hp hI hF
    have hnn : ((n + 1 : Nat) : Int) = (n : Int) + 1 := by omega
    have hfu := fuE
    unfold fX12_keep_55
    have kc1 := L14
    refine s_le (fun kh2 => ?_) (fun kh2 => ?_)
    · have kc3 := L1
      exact s_ret ⟨(show (0 ≤ (1 : Int32).toInt) ∧ ((1 : Int32).toInt ≤ 1) by omega), hI, hF⟩
    · have kc4 : 0 ≤ (m.1 72 6).toInt ∧ (m.1 72 6).toInt ≤ 14 := hI.1 72 6
      have kc5 : 0 ≤ (m.1 72 25).toInt ∧ (m.1 72 25).toInt ≤ 14 := hI.1 72 25
      have kc6 := zI.le hI
      refine s_le (fun kh7 => ?_) (fun kh7 => ?_)
      · have kc8 : (v2 + (2 : Int32)).toInt = (v2).toInt + 2 := a_addl L2 (by omega) (by omega)
        have kc9 : ((v2 + (2 : Int32)) + v3).toInt = ((v2 + (2 : Int32))).toInt + (v3).toInt := a_add (by omega) (by omega)
        have kx10 : 0 ≤ (((v2 + (2 : Int32)) + v3)).toInt ∧ (((v2 + (2 : Int32)) + v3)).toInt < (48 : Int) := by omega
        refine s_ix kx10 ?_
        have kc11 : (v3 + (1 : Int32)).toInt = (v3).toInt + 1 := a_addl L1 (by omega) (by omega)
        have kc12 := Ln1
        have ki13 : zI (sm_w1 m 106 (((v2 + (2 : Int32)) + v3)).toNatClampNeg (-1 : Int32)) := zI.w106 hI (show 0 ≤ (((v2 + (2 : Int32)) + v3)).toInt by omega) (show ((((v2 + (2 : Int32)) + v3)).toInt % 16 = 0 → 0 ≤ ((-1 : Int32)).toInt ∧ ((-1 : Int32)).toInt ≤ 9) ∧ ((((v2 + (2 : Int32)) + v3)).toInt % 16 = 1 → 0 ≤ ((-1 : Int32)).toInt ∧ ((-1 : Int32)).toInt ≤ 9999) by omega)
        have kf14 : Fr wX12_keep m0 (sm_w1 m 106 (((v2 + (2 : Int32)) + v3)).toNatClampNeg (-1 : Int32)) := Fr.w hF rfl
        exact ih v2 (v3 + (1 : Int32)) (sm_w1 m 106 (((v2 + (2 : Int32)) + v3)).toNatClampNeg (-1 : Int32)) (show 0 ≤ v2.toInt ∧ v2.toInt ≤ 32 ∧ 0 ≤ (v3 + (1 : Int32)).toInt ∧ (v3 + (1 : Int32)).toInt ≤ 14 ∧ 14 - (v3 + (1 : Int32)).toInt < (n : Int) ∧ v2.toInt % 16 = 0 by omega) ki13 kf14
      · have kx15 : 0 ≤ (v3).toInt ∧ (v3).toInt < (14 : Int) := by omega
        refine s_ix kx15 ?_
        have kc16 : (v2 + (2 : Int32)).toInt = (v2).toInt + 2 := a_addl L2 (by omega) (by omega)
        have kc17 : ((v2 + (2 : Int32)) + v3).toInt = ((v2 + (2 : Int32))).toInt + (v3).toInt := a_add (by omega) (by omega)
        have kx18 : 0 ≤ (((v2 + (2 : Int32)) + v3)).toInt ∧ (((v2 + (2 : Int32)) + v3)).toInt < (48 : Int) := by omega
        refine s_ix kx18 ?_
        have kc19 : (v3 + (1 : Int32)).toInt = (v3).toInt + 1 := a_addl L1 (by omega) (by omega)
        have ki20 : zI (sm_w1 m 106 (((v2 + (2 : Int32)) + v3)).toNatClampNeg (m.1 83 (v3).toNatClampNeg)) := zI.w106 hI (show 0 ≤ (((v2 + (2 : Int32)) + v3)).toInt by omega) (show ((((v2 + (2 : Int32)) + v3)).toInt % 16 = 0 → 0 ≤ ((m.1 83 (v3).toNatClampNeg)).toInt ∧ ((m.1 83 (v3).toNatClampNeg)).toInt ≤ 9) ∧ ((((v2 + (2 : Int32)) + v3)).toInt % 16 = 1 → 0 ≤ ((m.1 83 (v3).toNatClampNeg)).toInt ∧ ((m.1 83 (v3).toNatClampNeg)).toInt ≤ 9999) by omega)
        have kf21 : Fr wX12_keep m0 (sm_w1 m 106 (((v2 + (2 : Int32)) + v3)).toNatClampNeg (m.1 83 (v3).toNatClampNeg)) := Fr.w hF rfl
        exact ih v2 (v3 + (1 : Int32)) (sm_w1 m 106 (((v2 + (2 : Int32)) + v3)).toNatClampNeg (m.1 83 (v3).toNatClampNeg)) (show 0 ≤ v2.toInt ∧ v2.toInt ≤ 32 ∧ 0 ≤ (v3 + (1 : Int32)).toInt ∧ (v3 + (1 : Int32)).toInt ≤ 14 ∧ 14 - (v3 + (1 : Int32)).toInt < (n : Int) ∧ v2.toInt % 16 = 0 by omega) ki20 kf21
theorem zX12_keep (x1 : Int32) (m : sm_S) (hI : zI m) : Sf (fun r => ((0 ≤ r.1.toInt) ∧ (r.1.toInt ≤ 1)) ∧ zI r.2 ∧ Fr wX12_keep m r.2) (fX12_keep x1 m) := by
  have hfu := fuE
  unfold fX12_keep
  have kc1 : (x1).toInt64.toInt = (x1).toInt := Int32.toInt_toInt64 _
  have kc2 := LL0
  have kc3 := LL2
  have kc4 := L0
  have ki5 : zI (sm_w1 m 72 0 (0 : Int32)) := zI.w hI rfl (show 0 ≤ ((0 : Int32)).toInt ∧ ((0 : Int32)).toInt ≤ 1 by omega)
  refine s_bd (zX12_in (x1).toInt64 (0 : Int64) (2 : Int64) (sm_w1 m 72 0 (0 : Int32)) (show (-1 : Int) ≤ (0 : Int64).toInt ∧ (0 : Int64).toInt ≤ 48 ∧ (-1 : Int) ≤ (2 : Int64).toInt ∧ (2 : Int64).toInt ≤ 9999 by omega) ki5) (fun r2 kr6 => ?_)
  replace kr6 : (0 ≤ r2.toInt) ∧ (r2.toInt ≤ 1) ∧ ((r2.toInt = 0 ∧ ((x1).toInt64.toInt < (0 : Int64).toInt ∨ (2 : Int64).toInt < (x1).toInt64.toInt)) ∨ (r2.toInt = 1 ∧ (0 : Int64).toInt ≤ (x1).toInt64.toInt ∧ (x1).toInt64.toInt ≤ (2 : Int64).toInt)) := kr6
  refine s_eq (fun kh7 => ?_) (fun kh7 => ?_)
  · have kf8 : Fr wX12_keep m (sm_w1 m 72 0 (0 : Int32)) := Fr.w Fr.refl rfl
    exact s_ret ⟨(show (0 ≤ (0 : Int32).toInt) ∧ ((0 : Int32).toInt ≤ 1) by omega), ki5, kf8⟩
  · have kx9 : 0 ≤ (x1).toInt ∧ (x1).toInt < (3 : Int) := by omega
    refine s_ix kx9 ?_
    have kc10 := L16
    have kc11 : ((16 : Int32) * x1).toInt = 16 * (x1).toInt := a_mul L16 rfl (by omega) (by omega)
    have kx12 : 0 ≤ (((16 : Int32) * x1)).toInt ∧ (((16 : Int32) * x1)).toInt < (48 : Int) := by omega
    refine s_ix kx12 ?_
    have kc13 : (((16 : Int32) * x1) + (1 : Int32)).toInt = (((16 : Int32) * x1)).toInt + 1 := a_addl L1 (by omega) (by omega)
    have kx14 : 0 ≤ ((((16 : Int32) * x1) + (1 : Int32))).toInt ∧ ((((16 : Int32) * x1) + (1 : Int32))).toInt < (48 : Int) := by omega
    refine s_ix kx14 ?_
    have kc15 : 0 ≤ (vp_nar .boolean (1 : Int32)).toInt ∧ (vp_nar .boolean (1 : Int32)).toInt ≤ 1 := a_bool _
    have ki16 : zI (sm_w1 (sm_w1 m 72 0 (0 : Int32)) 105 (x1).toNatClampNeg (vp_nar .boolean (1 : Int32))) := zI.w ki5 rfl (show 0 ≤ ((vp_nar .boolean (1 : Int32))).toInt ∧ ((vp_nar .boolean (1 : Int32))).toInt ≤ 1 by omega)
    have kc17 : 0 ≤ (m.1 72 17).toInt ∧ (m.1 72 17).toInt ≤ 9 := hI.1 72 17
    have ki18 : zI (sm_w1 (sm_w1 (sm_w1 m 72 0 (0 : Int32)) 105 (x1).toNatClampNeg (vp_nar .boolean (1 : Int32))) 106 (((16 : Int32) * x1)).toNatClampNeg (m.1 72 17)) := zI.w106 ki16 (show 0 ≤ (((16 : Int32) * x1)).toInt by omega) (show ((((16 : Int32) * x1)).toInt % 16 = 0 → 0 ≤ ((m.1 72 17)).toInt ∧ ((m.1 72 17)).toInt ≤ 9) ∧ ((((16 : Int32) * x1)).toInt % 16 = 1 → 0 ≤ ((m.1 72 17)).toInt ∧ ((m.1 72 17)).toInt ≤ 9999) by omega)
    have kc19 : 0 ≤ (m.1 72 18).toInt ∧ (m.1 72 18).toInt ≤ 9999 := hI.1 72 18
    have ki20 : zI (sm_w1 (sm_w1 (sm_w1 (sm_w1 m 72 0 (0 : Int32)) 105 (x1).toNatClampNeg (vp_nar .boolean (1 : Int32))) 106 (((16 : Int32) * x1)).toNatClampNeg (m.1 72 17)) 106 ((((16 : Int32) * x1) + (1 : Int32))).toNatClampNeg (m.1 72 18)) := zI.w106 ki18 (show 0 ≤ ((((16 : Int32) * x1) + (1 : Int32))).toInt by omega) (show (((((16 : Int32) * x1) + (1 : Int32))).toInt % 16 = 0 → 0 ≤ ((m.1 72 18)).toInt ∧ ((m.1 72 18)).toInt ≤ 9) ∧ (((((16 : Int32) * x1) + (1 : Int32))).toInt % 16 = 1 → 0 ≤ ((m.1 72 18)).toInt ∧ ((m.1 72 18)).toInt ≤ 9999) by omega)
    have kf21 : Fr wX12_keep m (sm_w1 m 72 0 (0 : Int32)) := Fr.w Fr.refl rfl
    have kf22 : Fr wX12_keep m (sm_w1 (sm_w1 m 72 0 (0 : Int32)) 105 (x1).toNatClampNeg (vp_nar .boolean (1 : Int32))) := Fr.w kf21 rfl
    have kf23 : Fr wX12_keep m (sm_w1 (sm_w1 (sm_w1 m 72 0 (0 : Int32)) 105 (x1).toNatClampNeg (vp_nar .boolean (1 : Int32))) 106 (((16 : Int32) * x1)).toNatClampNeg (m.1 72 17)) := Fr.w kf22 rfl
    have kf24 : Fr wX12_keep m (sm_w1 (sm_w1 (sm_w1 (sm_w1 m 72 0 (0 : Int32)) 105 (x1).toNatClampNeg (vp_nar .boolean (1 : Int32))) 106 (((16 : Int32) * x1)).toNatClampNeg (m.1 72 17)) 106 ((((16 : Int32) * x1) + (1 : Int32))).toNatClampNeg (m.1 72 18)) := Fr.w kf23 rfl
    exact zX12_keep_55 m sm_fu ((16 : Int32) * x1) (0 : Int32) (sm_w1 (sm_w1 (sm_w1 (sm_w1 m 72 0 (0 : Int32)) 105 (x1).toNatClampNeg (vp_nar .boolean (1 : Int32))) 106 (((16 : Int32) * x1)).toNatClampNeg (m.1 72 17)) 106 ((((16 : Int32) * x1) + (1 : Int32))).toNatClampNeg (m.1 72 18)) (show 0 ≤ ((16 : Int32) * x1).toInt ∧ ((16 : Int32) * x1).toInt ≤ 32 ∧ 0 ≤ (0 : Int32).toInt ∧ (0 : Int32).toInt ≤ 14 ∧ 14 - (0 : Int32).toInt < (sm_fu : Int) ∧ ((16 : Int32) * x1).toInt % 16 = 0 by omega) ki20 kf24
theorem zX12_again_57 (m0 : sm_S) : ∀ (n : Nat) (v2 : Int32) (v3 : Int32) (m : sm_S), (0 ≤ v2.toInt ∧ v2.toInt ≤ 32 ∧ 0 ≤ v3.toInt ∧ v3.toInt ≤ 14 ∧ 14 - v3.toInt < (n : Int)) → zI m → Fr wX12_again m0 m → Sf (fun r => ((0 ≤ r.1.toInt) ∧ (r.1.toInt ≤ 1)) ∧ zI r.2 ∧ Fr wX12_again m0 r.2) (fX12_again_57 n v2 v3 m) := by
  intro n
  induction n with
  | zero =>
    intro v2 v3 m hp hI hF
    exfalso
    omega
  | succ n ih =>
    intro v2 v3 m hp hI hF
    have hnn : ((n + 1 : Nat) : Int) = (n : Int) + 1 := by omega
    have hfu := fuE
    unfold fX12_again_57
    have kc1 := L14
    refine s_le (fun kh2 => ?_) (fun kh2 => ?_)
    · have kc3 := L1
      have kc4 := L0
      have ki5 : zI (sm_w1 m 72 27 (0 : Int32)) := zI.w hI rfl (show 0 ≤ ((0 : Int32)).toInt ∧ ((0 : Int32)).toInt ≤ 30 by omega)
      have kf6 : Fr wX12_again m0 (sm_w1 m 72 27 (0 : Int32)) := Fr.w hF rfl
      exact s_ret ⟨(show (0 ≤ (1 : Int32).toInt) ∧ ((1 : Int32).toInt ≤ 1) by omega), ki5, kf6⟩
    · have kc7 : (v2 + (2 : Int32)).toInt = (v2).toInt + 2 := a_addl L2 (by omega) (by omega)
      have kc8 : ((v2 + (2 : Int32)) + v3).toInt = ((v2 + (2 : Int32))).toInt + (v3).toInt := a_add (by omega) (by omega)
      have kx9 : 0 ≤ (((v2 + (2 : Int32)) + v3)).toInt ∧ (((v2 + (2 : Int32)) + v3)).toInt < (48 : Int) := by omega
      refine s_ix kx9 ?_
      have kx10 : 0 ≤ (v3).toInt ∧ (v3).toInt < (14 : Int) := by omega
      refine s_ix kx10 ?_
      have kc11 : (v3 + (1 : Int32)).toInt = (v3).toInt + 1 := a_addl L1 (by omega) (by omega)
      have kc12 := zI.k106 hI ((v2 + (2 : Int32)) + v3)
      have ki13 : zI (sm_w1 m 83 (v3).toNatClampNeg (m.1 106 (((v2 + (2 : Int32)) + v3)).toNatClampNeg)) := zI.w hI rfl (rg _)
      have kf14 : Fr wX12_again m0 (sm_w1 m 83 (v3).toNatClampNeg (m.1 106 (((v2 + (2 : Int32)) + v3)).toNatClampNeg)) := Fr.w hF rfl
      exact ih v2 (v3 + (1 : Int32)) (sm_w1 m 83 (v3).toNatClampNeg (m.1 106 (((v2 + (2 : Int32)) + v3)).toNatClampNeg)) (show 0 ≤ v2.toInt ∧ v2.toInt ≤ 32 ∧ 0 ≤ (v3 + (1 : Int32)).toInt ∧ (v3 + (1 : Int32)).toInt ≤ 14 ∧ 14 - (v3 + (1 : Int32)).toInt < (n : Int) by omega) ki13 kf14
theorem zX12_again (x1 : Int32) (m : sm_S) (hI : zI m) : Sf (fun r => ((0 ≤ r.1.toInt) ∧ (r.1.toInt ≤ 1)) ∧ zI r.2 ∧ Fr wX12_again m r.2) (fX12_again x1 m) := by
  have hfu := fuE
  unfold fX12_again
  have kc1 : (x1).toInt64.toInt = (x1).toInt := Int32.toInt_toInt64 _
  have kc2 := LL0
  have kc3 := LL2
  have kc4 := L0
  have ki5 : zI (sm_w1 m 72 0 (0 : Int32)) := zI.w hI rfl (show 0 ≤ ((0 : Int32)).toInt ∧ ((0 : Int32)).toInt ≤ 1 by omega)
  refine s_bd (zX12_in (x1).toInt64 (0 : Int64) (2 : Int64) (sm_w1 m 72 0 (0 : Int32)) (show (-1 : Int) ≤ (0 : Int64).toInt ∧ (0 : Int64).toInt ≤ 48 ∧ (-1 : Int) ≤ (2 : Int64).toInt ∧ (2 : Int64).toInt ≤ 9999 by omega) ki5) (fun r2 kr6 => ?_)
  replace kr6 : (0 ≤ r2.toInt) ∧ (r2.toInt ≤ 1) ∧ ((r2.toInt = 0 ∧ ((x1).toInt64.toInt < (0 : Int64).toInt ∨ (2 : Int64).toInt < (x1).toInt64.toInt)) ∨ (r2.toInt = 1 ∧ (0 : Int64).toInt ≤ (x1).toInt64.toInt ∧ (x1).toInt64.toInt ≤ (2 : Int64).toInt)) := kr6
  refine s_eq (fun kh7 => ?_) (fun kh7 => ?_)
  · have kf8 : Fr wX12_again m (sm_w1 m 72 0 (0 : Int32)) := Fr.w Fr.refl rfl
    exact s_ret ⟨(show (0 ≤ (0 : Int32).toInt) ∧ ((0 : Int32).toInt ≤ 1) by omega), ki5, kf8⟩
  · have kx9 : 0 ≤ (x1).toInt ∧ (x1).toInt < (3 : Int) := by omega
    refine s_ix kx9 ?_
    have kc10 : 0 ≤ (m.1 105 (x1).toNatClampNeg).toInt ∧ (m.1 105 (x1).toNatClampNeg).toInt ≤ 1 := hI.1 105 (x1).toNatClampNeg
    refine s_eq (fun kh11 => ?_) (fun kh11 => ?_)
    · have kf12 : Fr wX12_again m (sm_w1 m 72 0 (0 : Int32)) := Fr.w Fr.refl rfl
      exact s_ret ⟨(show (0 ≤ (0 : Int32).toInt) ∧ ((0 : Int32).toInt ≤ 1) by omega), ki5, kf12⟩
    · have kc13 := L16
      have kc14 : ((16 : Int32) * x1).toInt = 16 * (x1).toInt := a_mul L16 rfl (by omega) (by omega)
      have kx15 : 0 ≤ (((16 : Int32) * x1)).toInt ∧ (((16 : Int32) * x1)).toInt < (48 : Int) := by omega
      refine s_ix kx15 ?_
      have kc16 : (((16 : Int32) * x1) + (1 : Int32)).toInt = (((16 : Int32) * x1)).toInt + 1 := a_addl L1 (by omega) (by omega)
      have kx17 : 0 ≤ ((((16 : Int32) * x1) + (1 : Int32))).toInt ∧ ((((16 : Int32) * x1) + (1 : Int32))).toInt < (48 : Int) := by omega
      refine s_ix kx17 ?_
      have kc18 := zI.k106 hI ((16 : Int32) * x1)
      have ki19 : zI (sm_w1 (sm_w1 m 72 0 (0 : Int32)) 72 17 (m.1 106 (((16 : Int32) * x1)).toNatClampNeg)) := zI.w ki5 rfl (show 0 ≤ ((m.1 106 (((16 : Int32) * x1)).toNatClampNeg)).toInt ∧ ((m.1 106 (((16 : Int32) * x1)).toNatClampNeg)).toInt ≤ 9 by omega)
      have kc20 := zI.k106 hI (((16 : Int32) * x1) + (1 : Int32))
      have ki21 : zI (sm_w1 (sm_w1 (sm_w1 m 72 0 (0 : Int32)) 72 17 (m.1 106 (((16 : Int32) * x1)).toNatClampNeg)) 72 18 (m.1 106 ((((16 : Int32) * x1) + (1 : Int32))).toNatClampNeg)) := zI.w ki19 rfl (show 0 ≤ ((m.1 106 ((((16 : Int32) * x1) + (1 : Int32))).toNatClampNeg)).toInt ∧ ((m.1 106 ((((16 : Int32) * x1) + (1 : Int32))).toNatClampNeg)).toInt ≤ 9999 by omega)
      have kf22 : Fr wX12_again m (sm_w1 m 72 0 (0 : Int32)) := Fr.w Fr.refl rfl
      have kf23 : Fr wX12_again m (sm_w1 (sm_w1 m 72 0 (0 : Int32)) 72 17 (m.1 106 (((16 : Int32) * x1)).toNatClampNeg)) := Fr.w kf22 rfl
      have kf24 : Fr wX12_again m (sm_w1 (sm_w1 (sm_w1 m 72 0 (0 : Int32)) 72 17 (m.1 106 (((16 : Int32) * x1)).toNatClampNeg)) 72 18 (m.1 106 ((((16 : Int32) * x1) + (1 : Int32))).toNatClampNeg)) := Fr.w kf23 rfl
      exact zX12_again_57 m sm_fu ((16 : Int32) * x1) (0 : Int32) (sm_w1 (sm_w1 (sm_w1 m 72 0 (0 : Int32)) 72 17 (m.1 106 (((16 : Int32) * x1)).toNatClampNeg)) 72 18 (m.1 106 ((((16 : Int32) * x1) + (1 : Int32))).toNatClampNeg)) (show 0 ≤ ((16 : Int32) * x1).toInt ∧ ((16 : Int32) * x1).toInt ≤ 32 ∧ 0 ≤ (0 : Int32).toInt ∧ (0 : Int32).toInt ≤ 14 ∧ 14 - (0 : Int32).toInt < (sm_fu : Int) by omega) ki21 kf24
theorem zX12_count (x1 : Int32) (m : sm_S) (hI : zI m) : Sf (fun r => (((-1 : Int) ≤ r.1.toInt) ∧ (r.1.toInt ≤ 9999)) ∧ zI r.2 ∧ Fr wX12_count m r.2) (fX12_count x1 m) := by
  have hfu := fuE
  unfold fX12_count
  have kc1 := L0
  refine s_eq (fun kh2 => ?_) (fun kh2 => ?_)
  · have kc3 : 0 ≤ (m.1 72 3).toInt ∧ (m.1 72 3).toInt ≤ 10 := hI.1 72 3
    have ki4 : zI (sm_w1 m 72 0 (0 : Int32)) := zI.w hI rfl (show 0 ≤ ((0 : Int32)).toInt ∧ ((0 : Int32)).toInt ≤ 1 by omega)
    have kf5 : Fr wX12_count m (sm_w1 m 72 0 (0 : Int32)) := Fr.w Fr.refl rfl
    exact s_ret ⟨(show ((-1 : Int) ≤ (m.1 72 3).toInt) ∧ ((m.1 72 3).toInt ≤ 9999) by omega), ki4, kf5⟩
  · have kc6 := L1
    refine s_eq (fun kh7 => ?_) (fun kh7 => ?_)
    · have kc8 : 0 ≤ (m.1 72 6).toInt ∧ (m.1 72 6).toInt ≤ 14 := hI.1 72 6
      have kc9 : 0 ≤ (m.1 72 25).toInt ∧ (m.1 72 25).toInt ≤ 14 := hI.1 72 25
      have kc10 := zI.le hI
      have ki11 : zI (sm_w1 m 72 0 (0 : Int32)) := zI.w hI rfl (show 0 ≤ ((0 : Int32)).toInt ∧ ((0 : Int32)).toInt ≤ 1 by omega)
      have kf12 : Fr wX12_count m (sm_w1 m 72 0 (0 : Int32)) := Fr.w Fr.refl rfl
      exact s_ret ⟨(show ((-1 : Int) ≤ (m.1 72 6).toInt) ∧ ((m.1 72 6).toInt ≤ 9999) by omega), ki11, kf12⟩
    · have kc13 := L2
      refine s_eq (fun kh14 => ?_) (fun kh14 => ?_)
      · have kc15 : 0 ≤ (m.1 72 3).toInt ∧ (m.1 72 3).toInt ≤ 10 := hI.1 72 3
        refine s_eq (fun kh16 => ?_) (fun kh16 => ?_)
        · have kc17 := Ln1
          have ki18 : zI (sm_w1 m 72 0 (0 : Int32)) := zI.w hI rfl (show 0 ≤ ((0 : Int32)).toInt ∧ ((0 : Int32)).toInt ≤ 1 by omega)
          have kf19 : Fr wX12_count m (sm_w1 m 72 0 (0 : Int32)) := Fr.w Fr.refl rfl
          exact s_ret ⟨(show ((-1 : Int) ≤ (-1 : Int32).toInt) ∧ ((-1 : Int32).toInt ≤ 9999) by omega), ki18, kf19⟩
        · have kc20 : 0 ≤ (m.1 72 17).toInt ∧ (m.1 72 17).toInt ≤ 9 := hI.1 72 17
          have ki21 : zI (sm_w1 m 72 0 (0 : Int32)) := zI.w hI rfl (show 0 ≤ ((0 : Int32)).toInt ∧ ((0 : Int32)).toInt ≤ 1 by omega)
          have kf22 : Fr wX12_count m (sm_w1 m 72 0 (0 : Int32)) := Fr.w Fr.refl rfl
          exact s_ret ⟨(show ((-1 : Int) ≤ (m.1 72 17).toInt) ∧ ((m.1 72 17).toInt ≤ 9999) by omega), ki21, kf22⟩
      · have kc23 := L3
        refine s_eq (fun kh24 => ?_) (fun kh24 => ?_)
        · have kc25 : 0 ≤ (m.1 72 18).toInt ∧ (m.1 72 18).toInt ≤ 9999 := hI.1 72 18
          have ki26 : zI (sm_w1 m 72 0 (0 : Int32)) := zI.w hI rfl (show 0 ≤ ((0 : Int32)).toInt ∧ ((0 : Int32)).toInt ≤ 1 by omega)
          have kf27 : Fr wX12_count m (sm_w1 m 72 0 (0 : Int32)) := Fr.w Fr.refl rfl
          exact s_ret ⟨(show ((-1 : Int) ≤ (m.1 72 18).toInt) ∧ ((m.1 72 18).toInt ≤ 9999) by omega), ki26, kf27⟩
        · have kc28 := L4
          refine s_eq (fun kh29 => ?_) (fun kh29 => ?_)
          · have kc30 : 0 ≤ (m.1 72 27).toInt ∧ (m.1 72 27).toInt ≤ 30 := hI.1 72 27
            have ki31 : zI (sm_w1 m 72 0 (0 : Int32)) := zI.w hI rfl (show 0 ≤ ((0 : Int32)).toInt ∧ ((0 : Int32)).toInt ≤ 1 by omega)
            have kf32 : Fr wX12_count m (sm_w1 m 72 0 (0 : Int32)) := Fr.w Fr.refl rfl
            exact s_ret ⟨(show ((-1 : Int) ≤ (m.1 72 27).toInt) ∧ ((m.1 72 27).toInt ≤ 9999) by omega), ki31, kf32⟩
          · have kc33 := L5
            refine s_eq (fun kh34 => ?_) (fun kh34 => ?_)
            · have kc35 : 0 ≤ (m.1 72 51).toInt ∧ (m.1 72 51).toInt ≤ 12 := hI.1 72 51
              have ki36 : zI (sm_w1 m 72 0 (0 : Int32)) := zI.w hI rfl (show 0 ≤ ((0 : Int32)).toInt ∧ ((0 : Int32)).toInt ≤ 1 by omega)
              have kf37 : Fr wX12_count m (sm_w1 m 72 0 (0 : Int32)) := Fr.w Fr.refl rfl
              exact s_ret ⟨(show ((-1 : Int) ≤ (m.1 72 51).toInt) ∧ ((m.1 72 51).toInt ≤ 9999) by omega), ki36, kf37⟩
            · have kc38 := L6
              refine s_eq (fun kh39 => ?_) (fun kh39 => ?_)
              · have kc40 : 0 ≤ (m.1 72 1).toInt ∧ (m.1 72 1).toInt ≤ 24 := hI.1 72 1
                have ki41 : zI (sm_w1 m 72 0 (0 : Int32)) := zI.w hI rfl (show 0 ≤ ((0 : Int32)).toInt ∧ ((0 : Int32)).toInt ≤ 1 by omega)
                have kf42 : Fr wX12_count m (sm_w1 m 72 0 (0 : Int32)) := Fr.w Fr.refl rfl
                exact s_ret ⟨(show ((-1 : Int) ≤ (m.1 72 1).toInt) ∧ ((m.1 72 1).toInt ≤ 9999) by omega), ki41, kf42⟩
              · have kc43 := L7
                refine s_eq (fun kh44 => ?_) (fun kh44 => ?_)
                · have kc45 : 0 ≤ (m.1 72 21).toInt ∧ (m.1 72 21).toInt ≤ 80 := hI.1 72 21
                  have ki46 : zI (sm_w1 m 72 0 (0 : Int32)) := zI.w hI rfl (show 0 ≤ ((0 : Int32)).toInt ∧ ((0 : Int32)).toInt ≤ 1 by omega)
                  have kf47 : Fr wX12_count m (sm_w1 m 72 0 (0 : Int32)) := Fr.w Fr.refl rfl
                  exact s_ret ⟨(show ((-1 : Int) ≤ (m.1 72 21).toInt) ∧ ((m.1 72 21).toInt ≤ 9999) by omega), ki46, kf47⟩
                · have kc48 := L8
                  refine s_eq (fun kh49 => ?_) (fun kh49 => ?_)
                  · have kc50 : 0 ≤ (m.1 72 15).toInt ∧ (m.1 72 15).toInt ≤ 99 := hI.1 72 15
                    have ki51 : zI (sm_w1 m 72 0 (0 : Int32)) := zI.w hI rfl (show 0 ≤ ((0 : Int32)).toInt ∧ ((0 : Int32)).toInt ≤ 1 by omega)
                    have kf52 : Fr wX12_count m (sm_w1 m 72 0 (0 : Int32)) := Fr.w Fr.refl rfl
                    exact s_ret ⟨(show ((-1 : Int) ≤ (m.1 72 15).toInt) ∧ ((m.1 72 15).toInt ≤ 9999) by omega), ki51, kf52⟩
                  · have kc53 := L9
                    refine s_eq (fun kh54 => ?_) (fun kh54 => ?_)
                    · have kc55 : 0 ≤ (m.1 72 16).toInt ∧ (m.1 72 16).toInt ≤ 9999 := hI.1 72 16
                      have ki56 : zI (sm_w1 m 72 0 (0 : Int32)) := zI.w hI rfl (show 0 ≤ ((0 : Int32)).toInt ∧ ((0 : Int32)).toInt ≤ 1 by omega)
                      have kf57 : Fr wX12_count m (sm_w1 m 72 0 (0 : Int32)) := Fr.w Fr.refl rfl
                      exact s_ret ⟨(show ((-1 : Int) ≤ (m.1 72 16).toInt) ∧ ((m.1 72 16).toInt ≤ 9999) by omega), ki56, kf57⟩
                    · have kc58 := Ln1
                      have ki59 : zI (sm_w1 m 72 0 (0 : Int32)) := zI.w hI rfl (show 0 ≤ ((0 : Int32)).toInt ∧ ((0 : Int32)).toInt ≤ 1 by omega)
                      have kf60 : Fr wX12_count m (sm_w1 m 72 0 (0 : Int32)) := Fr.w Fr.refl rfl
                      exact s_ret ⟨(show ((-1 : Int) ≤ (-1 : Int32).toInt) ∧ ((-1 : Int32).toInt ≤ 9999) by omega), ki59, kf60⟩
