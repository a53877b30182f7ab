theorem zX12_pairsBy_51 (m0 : sm_S) : ∀ (n : Nat) (v3 : Int32) (m : sm_S), (0 ≤ v3.toInt ∧ v3.toInt ≤ 10 ∧ 10 - v3.toInt < (n : Int) ∧ (m.1 72 1).toInt ≤ v3.toInt) → zI m → Fr wX12_pairsBy m0 m → Sf (fun r => (True) ∧ zI r.2 ∧ Fr wX12_pairsBy m0 r.2) (fX12_pairsBy_51 n v3 m) := by
  intro n
  induction n with
  | zero =>
    intro v3 m hp hI hF
    have kc1 : 0 ≤ (m.1 72 1).toInt ∧ (m.1 72 1).toInt ≤ 24 := hI.1 72 1
    exfalso
    omega
  | succ n ih =>
    intro v3 m hp hI hF
    have hnn : ((n + 1 : Nat) : Int) = (n : Int) + 1 := by omega
    have hfu := fuE
    have kc1 : 0 ≤ (m.1 72 1).toInt ∧ (m.1 72 1).toInt ≤ 24 := hI.1 72 1
    unfold fX12_pairsBy_51
    have kc2 : 0 ≤ (m.1 72 45).toInt ∧ (m.1 72 45).toInt ≤ 10 := hI.1 72 45
    refine s_le (fun kh3 => ?_) (fun kh3 => ?_)
    · exact s_ret ⟨trivial, hI, hF⟩
    · have kx4 : 0 ≤ (v3).toInt ∧ (v3).toInt < (10 : Int) := by omega
      refine s_ix kx4 ?_
      refine s_bd (zX12_enters (m.1 97 (v3).toNatClampNeg) m (show (m.1 72 1).toInt ≤ 23 by omega) hI) (fun m11 kr5 => ?_)
      obtain ⟨kp6, ki7, kf8⟩ := kr5
      replace kp6 : ((m11.1 72 1).toInt = (m.1 72 1).toInt + 1) := kp6
      have kc9 : 0 ≤ (m11.1 72 1).toInt ∧ (m11.1 72 1).toInt ≤ 24 := ki7.1 72 1
      have kc10 : (v3 + (1 : Int32)).toInt = (v3).toInt + 1 := a_addl L1 (by omega) (by omega)
      have kf11 : Fr wX12_pairsBy m0 m11 := Fr.trans hF kf8 rfl
      exact ih (v3 + (1 : Int32)) m11 (show 0 ≤ (v3 + (1 : Int32)).toInt ∧ (v3 + (1 : Int32)).toInt ≤ 10 ∧ 10 - (v3 + (1 : Int32)).toInt < (n : Int) ∧ (m11.1 72 1).toInt ≤ (v3 + (1 : Int32)).toInt by omega) ki7 kf11
theorem zX12_pairsBy (x1 : Int32) (m : sm_S) (hp : 0 ≤ x1.toInt ∧ x1.toInt ≤ 2) (hI : zI m) : Sf (fun r => (True) ∧ zI r.2 ∧ Fr wX12_pairsBy m r.2) (fX12_pairsBy x1 m) := by
  have hfu := fuE
  unfold fX12_pairsBy
  refine s_bd (zX12_hangTogether m hI) (fun r2 kr1 => ?_)
  obtain ⟨kp2, ki3, kf4⟩ := kr1
  replace kp2 : (0 ≤ r2.1.toInt) ∧ (r2.1.toInt ≤ 1) := kp2
  have kc5 := L0
  refine s_eq (fun kh6 => ?_) (fun kh6 => ?_)
  · have kc7 := Ln2
    have kf8 : Fr wX12_pairsBy m r2.2 := Fr.trans Fr.refl kf4 rfl
    exact s_ret ⟨trivial, ki3, kf8⟩
  · have kc9 := Ln1
    have ki10 : zI (sm_w1 r2.2 72 46 (-1 : Int32)) := zI.w ki3 rfl (rg _)
    have ki11 : zI (sm_w1 (sm_w1 r2.2 72 46 (-1 : Int32)) 72 42 (0 : Int32)) := zI.w ki10 rfl (show 0 ≤ ((0 : Int32)).toInt ∧ ((0 : Int32)).toInt ≤ 10 by omega)
    refine s_bd (zX12_allHedges (sm_w1 (sm_w1 r2.2 72 46 (-1 : Int32)) 72 42 (0 : Int32)) ki11) (fun r4 kr12 => ?_)
    replace kr12 : (0 ≤ r4.toInt) ∧ (r4.toInt ≤ 16383) := kr12
    refine s_bd (zX12_oddOf r4 (sm_w1 (sm_w1 r2.2 72 46 (-1 : Int32)) 72 42 (0 : Int32)) (show 0 ≤ r4.toInt ∧ r4.toInt ≤ 16383 by omega) ki11) (fun r6 kr13 => ?_)
    replace kr13 : (0 ≤ r6.toInt) ∧ (r6.toInt ≤ 1023) := kr13
    refine s_eq (fun kh14 => ?_) (fun kh14 => ?_)
    · have kc15 : 0 ≤ ((sm_w1 (sm_w1 r2.2 72 46 (-1 : Int32)) 72 42 (0 : Int32)).1 72 42).toInt ∧ ((sm_w1 (sm_w1 r2.2 72 46 (-1 : Int32)) 72 42 (0 : Int32)).1 72 42).toInt ≤ 10 := ki11.1 72 42
      have kc16 : ((sm_w1 (sm_w1 r2.2 72 46 (-1 : Int32)) 72 42 (0 : Int32)).1 72 42).toInt = ((0 : Int32)).toInt := rfl
      refine s_bd (zX12_couples r6 (0 : Int32) (0 : Int32) (sm_w1 (sm_w1 r2.2 72 46 (-1 : Int32)) 72 42 (0 : Int32)) (show 0 ≤ r6.toInt ∧ r6.toInt ≤ 1023 ∧ 0 ≤ (0 : Int32).toInt ∧ (0 : Int32).toInt ≤ 2 ∧ 0 ≤ (0 : Int32).toInt ∧ (0 : Int32).toInt ≤ 0 ∧ ((sm_w1 (sm_w1 r2.2 72 46 (-1 : Int32)) 72 42 (0 : Int32)).1 72 42).toInt = 0 by omega) ki11) (fun m13 kr17 => ?_)
      obtain ⟨kp18, ki19, kf20⟩ := kr17
      have ki21 : zI (sm_w1 m13 72 1 (0 : Int32)) := zI.w ki19 rfl (show 0 ≤ ((0 : Int32)).toInt ∧ ((0 : Int32)).toInt ≤ 24 by omega)
      have kc22 : 0 ≤ ((sm_w1 m13 72 1 (0 : Int32)).1 72 1).toInt ∧ ((sm_w1 m13 72 1 (0 : Int32)).1 72 1).toInt ≤ 24 := ki21.1 72 1
      have kc23 : ((sm_w1 m13 72 1 (0 : Int32)).1 72 1).toInt = ((0 : Int32)).toInt := rfl
      have kf24 : Fr wX12_pairsBy m r2.2 := Fr.trans Fr.refl kf4 rfl
      have kf25 : Fr wX12_pairsBy m (sm_w1 r2.2 72 46 (-1 : Int32)) := Fr.w kf24 rfl
      have kf26 : Fr wX12_pairsBy m (sm_w1 (sm_w1 r2.2 72 46 (-1 : Int32)) 72 42 (0 : Int32)) := Fr.w kf25 rfl
      have kf27 : Fr wX12_pairsBy m m13 := Fr.trans kf26 kf20 rfl
      have kf28 : Fr wX12_pairsBy m (sm_w1 m13 72 1 (0 : Int32)) := Fr.w kf27 rfl
      exact zX12_pairsBy_51 m sm_fu (0 : Int32) (sm_w1 m13 72 1 (0 : Int32)) (show 0 ≤ (0 : Int32).toInt ∧ (0 : Int32).toInt ≤ 10 ∧ 10 - (0 : Int32).toInt < (sm_fu : Int) ∧ ((sm_w1 m13 72 1 (0 : Int32)).1 72 1).toInt ≤ (0 : Int32).toInt by omega) ki21 kf28
    · have kc29 : 0 ≤ ((sm_w1 (sm_w1 r2.2 72 46 (-1 : Int32)) 72 42 (0 : Int32)).1 72 42).toInt ∧ ((sm_w1 (sm_w1 r2.2 72 46 (-1 : Int32)) 72 42 (0 : Int32)).1 72 42).toInt ≤ 10 := ki11.1 72 42
      have kc30 : ((sm_w1 (sm_w1 r2.2 72 46 (-1 : Int32)) 72 42 (0 : Int32)).1 72 42).toInt = ((0 : Int32)).toInt := rfl
      refine s_bd (zX12_couples r6 x1 (0 : Int32) (sm_w1 (sm_w1 r2.2 72 46 (-1 : Int32)) 72 42 (0 : Int32)) (show 0 ≤ r6.toInt ∧ r6.toInt ≤ 1023 ∧ 0 ≤ x1.toInt ∧ x1.toInt ≤ 2 ∧ 0 ≤ (0 : Int32).toInt ∧ (0 : Int32).toInt ≤ 0 ∧ ((sm_w1 (sm_w1 r2.2 72 46 (-1 : Int32)) 72 42 (0 : Int32)).1 72 42).toInt = 0 by omega) ki11) (fun m8 kr31 => ?_)
      obtain ⟨kp32, ki33, kf34⟩ := kr31
      have ki35 : zI (sm_w1 m8 72 1 (0 : Int32)) := zI.w ki33 rfl (show 0 ≤ ((0 : Int32)).toInt ∧ ((0 : Int32)).toInt ≤ 24 by omega)
      have kc36 : 0 ≤ ((sm_w1 m8 72 1 (0 : Int32)).1 72 1).toInt ∧ ((sm_w1 m8 72 1 (0 : Int32)).1 72 1).toInt ≤ 24 := ki35.1 72 1
      have kc37 : ((sm_w1 m8 72 1 (0 : Int32)).1 72 1).toInt = ((0 : Int32)).toInt := rfl
      have kf38 : Fr wX12_pairsBy m r2.2 := Fr.trans Fr.refl kf4 rfl
      have kf39 : Fr wX12_pairsBy m (sm_w1 r2.2 72 46 (-1 : Int32)) := Fr.w kf38 rfl
      have kf40 : Fr wX12_pairsBy m (sm_w1 (sm_w1 r2.2 72 46 (-1 : Int32)) 72 42 (0 : Int32)) := Fr.w kf39 rfl
      have kf41 : Fr wX12_pairsBy m m8 := Fr.trans kf40 kf34 rfl
      have kf42 : Fr wX12_pairsBy m (sm_w1 m8 72 1 (0 : Int32)) := Fr.w kf41 rfl
      exact zX12_pairsBy_51 m sm_fu (0 : Int32) (sm_w1 m8 72 1 (0 : Int32)) (show 0 ≤ (0 : Int32).toInt ∧ (0 : Int32).toInt ≤ 10 ∧ 10 - (0 : Int32).toInt < (sm_fu : Int) ∧ ((sm_w1 m8 72 1 (0 : Int32)).1 72 1).toInt ≤ (0 : Int32).toInt by omega) ki35 kf42
theorem zX12_closed (m : sm_S) (hI : zI m) : Sf (fun r => (True) ∧ zI r.2 ∧ Fr wX12_closed m r.2) (fX12_closed m) := by
  have hfu := fuE
  unfold fX12_closed
  have kc1 := L0
  have ki2 : zI (sm_w1 m 72 0 (0 : Int32)) := zI.w hI rfl (show 0 ≤ ((0 : Int32)).toInt ∧ ((0 : Int32)).toInt ≤ 1 by omega)
  refine s_bd (zX12_pairsBy (0 : Int32) (sm_w1 m 72 0 (0 : Int32)) (show 0 ≤ (0 : Int32).toInt ∧ (0 : Int32).toInt ≤ 2 by omega) ki2) (fun r2 kr3 => ?_)
  obtain ⟨kp4, ki5, kf6⟩ := kr3
  have kf7 : Fr wX12_closed m (sm_w1 m 72 0 (0 : Int32)) := Fr.w Fr.refl rfl
  have kf8 : Fr wX12_closed m r2.2 := Fr.trans kf7 kf6 rfl
  exact s_ret ⟨trivial, ki5, kf8⟩
theorem zX12_open (m : sm_S) (hI : zI m) : Sf (fun r => (True) ∧ zI r.2 ∧ Fr wX12_open m r.2) (fX12_open m) := by
  have hfu := fuE
  unfold fX12_open
  have kc1 := L2
  have kc2 := L0
  have ki3 : zI (sm_w1 m 72 0 (0 : Int32)) := zI.w hI rfl (show 0 ≤ ((0 : Int32)).toInt ∧ ((0 : Int32)).toInt ≤ 1 by omega)
  refine s_bd (zX12_pairsBy (2 : Int32) (sm_w1 m 72 0 (0 : Int32)) (show 0 ≤ (2 : Int32).toInt ∧ (2 : Int32).toInt ≤ 2 by omega) ki3) (fun r2 kr4 => ?_)
  obtain ⟨kp5, ki6, kf7⟩ := kr4
  have kf8 : Fr wX12_open m (sm_w1 m 72 0 (0 : Int32)) := Fr.w Fr.refl rfl
  have kf9 : Fr wX12_open m r2.2 := Fr.trans kf8 kf7 rfl
  exact s_ret ⟨trivial, ki6, kf9⟩
theorem zX12_laysOut_73 (m0 : sm_S) (k39 : Int32 → sm_S → Option (sm_S)) (Nk39 : Nat) (hk39 : ∀ (v2 : Int32) (m : sm_S), (0 ≤ v2.toInt ∧ v2.toInt ≤ 16384 ∧ 16384 - v2.toInt < (Nk39 : Int)) → zI m → Fr wX12_laysOut m0 m → Sf (fun r => (True) ∧ zI r ∧ Fr wX12_laysOut m0 r) (k39 v2 m)) (k49 : Int32 → Int32 → sm_S → Option (sm_S)) (Nk49 : Nat) (hk49 : ∀ (v2 : Int32) (v3 : Int32) (m : sm_S), (0 ≤ v2.toInt ∧ v2.toInt ≤ 16383 ∧ 0 ≤ v3.toInt ∧ v3.toInt ≤ 10 ∧ 10 - v3.toInt < (Nk49 : Int) ∧ 16384 - v2.toInt ≤ (Nk39 : Int)) → zI m → Fr wX12_laysOut m0 m → Sf (fun r => (True) ∧ zI r ∧ Fr wX12_laysOut m0 r) (k49 v2 v3 m)) : ∀ (n : Nat) (v2 : Int32) (v3 : Int32) (v4 : Int32) (v5 : Int32) (m : sm_S), (0 ≤ v2.toInt ∧ v2.toInt ≤ 16383 ∧ 0 ≤ v3.toInt ∧ v3.toInt ≤ 9 ∧ 0 ≤ v4.toInt ∧ v4.toInt ≤ 1000000 ∧ 0 ≤ v5.toInt ∧ v5.toInt ≤ 14 ∧ 14 - v5.toInt < (n : Int) ∧ 10 - v3.toInt ≤ (Nk49 : Int) ∧ 16384 - v2.toInt ≤ (Nk39 : Int)) → zI m → Fr wX12_laysOut m0 m → Sf (fun r => (True) ∧ zI r ∧ Fr wX12_laysOut m0 r) (fX12_laysOut_73 k49 k39 n v2 v3 v4 v5 m) := by
  intro n
  induction n with
  | zero =>
    intro v2 v3 v4 v5 m hp hI hF
    exfalso
    omega
  | succ n ih =>
    intro v2 v3 v4 v5 m hp hI hF
    have hnn : ((n + 1 : Nat) : Int) = (n : Int) + 1 := by omega
    have hfu := fuE
    unfold fX12_laysOut_73
    have kc1 : 0 ≤ (m.1 72 6).toInt ∧ (m.1 72 6).toInt ≤ 14 := hI.1 72 6
    have kc2 : 0 ≤ (m.1 72 25).toInt ∧ (m.1 72 25).toInt ≤ 14 := hI.1 72 25
    have kc3 := zI.le hI
    refine s_le (fun kh4 => ?_) (fun kh4 => ?_)
    · have kc5 : (v3 + (1 : Int32)).toInt = (v3).toInt + 1 := a_addl L1 (by omega) (by omega)
      exact hk49 v2 (v3 + (1 : Int32)) m (show 0 ≤ v2.toInt ∧ v2.toInt ≤ 16383 ∧ 0 ≤ (v3 + (1 : Int32)).toInt ∧ (v3 + (1 : Int32)).toInt ≤ 10 ∧ 10 - (v3 + (1 : Int32)).toInt < (Nk49 : Int) ∧ 16384 - v2.toInt ≤ (Nk39 : Int) by omega) hI hF
    · have kc6 := L1000000
      refine s_le (fun kh7 => ?_) (fun kh7 => ?_)
      · have kc8 : (v3 + (1 : Int32)).toInt = (v3).toInt + 1 := a_addl L1 (by omega) (by omega)
        exact hk49 v2 (v3 + (1 : Int32)) m (show 0 ≤ v2.toInt ∧ v2.toInt ≤ 16383 ∧ 0 ≤ (v3 + (1 : Int32)).toInt ∧ (v3 + (1 : Int32)).toInt ≤ 10 ∧ 10 - (v3 + (1 : Int32)).toInt < (Nk49 : Int) ∧ 16384 - v2.toInt ≤ (Nk39 : Int) by omega) hI hF
      · refine s_bd (zX12_has v2 v5 m (show 0 ≤ v2.toInt ∧ v2.toInt ≤ 16383 ∧ 0 ≤ v5.toInt ∧ v5.toInt ≤ 13 by omega) hI) (fun r6 kr9 => ?_)
        replace kr9 : (0 ≤ r6.toInt) ∧ (r6.toInt ≤ 1) := kr9
        have kc10 := L0
        refine s_eq (fun kh11 => ?_) (fun kh11 => ?_)
        · refine s_bd (zX12_isEnd v5 v3 m (show 0 ≤ v5.toInt ∧ v5.toInt ≤ 13 ∧ (-1 : Int) ≤ v3.toInt ∧ v3.toInt ≤ 9 ∧ v5.toInt < (m.1 72 6).toInt by omega) hI) (fun r8 kr12 => ?_)
          replace kr12 : (0 ≤ r8.toInt) ∧ (r8.toInt ≤ 1) := kr12
          refine s_eq (fun kh13 => ?_) (fun kh13 => ?_)
          · have kc14 : (v5 + (1 : Int32)).toInt = (v5).toInt + 1 := a_addl L1 (by omega) (by omega)
            exact ih v2 v3 v4 (v5 + (1 : Int32)) m (show 0 ≤ v2.toInt ∧ v2.toInt ≤ 16383 ∧ 0 ≤ v3.toInt ∧ v3.toInt ≤ 9 ∧ 0 ≤ v4.toInt ∧ v4.toInt ≤ 1000000 ∧ 0 ≤ (v5 + (1 : Int32)).toInt ∧ (v5 + (1 : Int32)).toInt ≤ 14 ∧ 14 - (v5 + (1 : Int32)).toInt < (n : Int) ∧ 10 - v3.toInt ≤ (Nk49 : Int) ∧ 16384 - v2.toInt ≤ (Nk39 : Int) by omega) hI hF
          · refine s_bd (zX12_endOf v5 v3 m (show 0 ≤ v5.toInt ∧ v5.toInt ≤ 13 ∧ (-1 : Int) ≤ v3.toInt ∧ v3.toInt ≤ 9 ∧ v5.toInt < (m.1 72 6).toInt by omega) hI) (fun r10 kr15 => ?_)
            replace kr15 : (0 ≤ r10.toInt) ∧ (r10.toInt ≤ 9) := kr15
            have kc16 := L10
            have kc17 := L1
            have kc18 := L31
            have kc19 : 0 ≤ (v5 &&& (31 : Int32)).toInt ∧ (v5 &&& (31 : Int32)).toInt ≤ ((31 : Int32)).toInt := a_andr (by omega)
            have kc20 : 0 ≤ (v5 &&& (31 : Int32)).toInt ∧ (v5 &&& (31 : Int32)).toInt ≤ (v5).toInt := a_andl (by omega)
            have kc21 : 1 ≤ ((1 : Int32) <<< (v5 &&& (31 : Int32))).toInt ∧ ((1 : Int32) <<< (v5 &&& (31 : Int32))).toInt ≤ 8192 := a_shl 13 (by decide) (by decide) (by omega) (by omega)
            have kc22 : 0 ≤ (v2 ||| ((1 : Int32) <<< (v5 &&& (31 : Int32)))).toInt ∧ (v2 ||| ((1 : Int32) <<< (v5 &&& (31 : Int32)))).toInt < 16384 := a_or 14 (by decide) (by decide) (by omega) (by omega) (by omega) (by omega)
            have kc23 : ((10 : Int32) * (v2 ||| ((1 : Int32) <<< (v5 &&& (31 : Int32))))).toInt = 10 * ((v2 ||| ((1 : Int32) <<< (v5 &&& (31 : Int32))))).toInt := a_mul L10 rfl (by omega) (by omega)
            have kc24 : (((10 : Int32) * (v2 ||| ((1 : Int32) <<< (v5 &&& (31 : Int32))))) + r10).toInt = (((10 : Int32) * (v2 ||| ((1 : Int32) <<< (v5 &&& (31 : Int32)))))).toInt + (r10).toInt := a_add (by omega) (by omega)
            have kx25 : 0 ≤ ((((10 : Int32) * (v2 ||| ((1 : Int32) <<< (v5 &&& (31 : Int32))))) + r10)).toInt ∧ ((((10 : Int32) * (v2 ||| ((1 : Int32) <<< (v5 &&& (31 : Int32))))) + r10)).toInt < (163840 : Int) := by omega
            refine s_ix kx25 ?_
            refine s_bd (zX12_minutesFrom v5 v3 m (show 0 ≤ v5.toInt ∧ v5.toInt ≤ 13 ∧ (-1 : Int) ≤ v3.toInt ∧ v3.toInt ≤ 9 ∧ v5.toInt < (m.1 72 6).toInt by omega) hI) (fun r13 kr26 => ?_)
            replace kr26 : (1 ≤ r13.toInt) ∧ (r13.toInt ≤ 29) ∧ ((v3.toInt = (m.1 76 v5.toNatClampNeg).toInt ∧ r13.toInt = (m.1 78 v5.toNatClampNeg).toInt) ∨ (v3.toInt ≠ (m.1 76 v5.toNatClampNeg).toInt ∧ r13.toInt = (m.1 78 v5.toNatClampNeg).toInt + (m.1 82 v5.toNatClampNeg).toInt)) := kr26
            have kc27 : (-1 : Int) ≤ (m.1 76 (v5).toNatClampNeg).toInt ∧ (m.1 76 (v5).toNatClampNeg).toInt ≤ 9 := hI.1 76 (v5).toNatClampNeg
            have kc28 : 0 ≤ (m.1 76 (v5).toNatClampNeg).toInt := zI.pf76 hI v5 (by omega) (by omega)
            have kc29 : (-1 : Int) ≤ (m.1 78 (v5).toNatClampNeg).toInt ∧ (m.1 78 (v5).toNatClampNeg).toInt ≤ 20 := hI.1 78 (v5).toNatClampNeg
            have kc30 : 1 ≤ (m.1 78 (v5).toNatClampNeg).toInt := zI.pf78 hI v5 (by omega) (by omega)
            have kc31 : (-1 : Int) ≤ (m.1 82 (v5).toNatClampNeg).toInt ∧ (m.1 82 (v5).toNatClampNeg).toInt ≤ 9 := hI.1 82 (v5).toNatClampNeg
            have kc32 : 0 ≤ (m.1 82 (v5).toNatClampNeg).toInt := zI.pf82 hI v5 (by omega) (by omega)
            refine s_ix kx25 ?_
            have kc33 : (v5 + (1 : Int32)).toInt = (v5).toInt + 1 := a_addl L1 (by omega) (by omega)
            have kc34 : (v4 + r13).toInt = (v4).toInt + (r13).toInt := a_add (by omega) (by omega)
            have kc35 : 0 ≤ (m.1 98 ((((10 : Int32) * (v2 ||| ((1 : Int32) <<< (v5 &&& (31 : Int32))))) + r10)).toNatClampNeg).toInt ∧ (m.1 98 ((((10 : Int32) * (v2 ||| ((1 : Int32) <<< (v5 &&& (31 : Int32))))) + r10)).toNatClampNeg).toInt ≤ 1000000 := hI.1 98 ((((10 : Int32) * (v2 ||| ((1 : Int32) <<< (v5 &&& (31 : Int32))))) + r10)).toNatClampNeg
            have kc36 : (((v4 + r13)).toInt < ((m.1 98 ((((10 : Int32) * (v2 ||| ((1 : Int32) <<< (v5 &&& (31 : Int32))))) + r10)).toNatClampNeg)).toInt ∧ (if (v4 + r13) < (m.1 98 ((((10 : Int32) * (v2 ||| ((1 : Int32) <<< (v5 &&& (31 : Int32))))) + r10)).toNatClampNeg) then (v4 + r13) else (m.1 98 ((((10 : Int32) * (v2 ||| ((1 : Int32) <<< (v5 &&& (31 : Int32))))) + r10)).toNatClampNeg)).toInt = ((v4 + r13)).toInt) ∨ (((m.1 98 ((((10 : Int32) * (v2 ||| ((1 : Int32) <<< (v5 &&& (31 : Int32))))) + r10)).toNatClampNeg)).toInt ≤ ((v4 + r13)).toInt ∧ (if (v4 + r13) < (m.1 98 ((((10 : Int32) * (v2 ||| ((1 : Int32) <<< (v5 &&& (31 : Int32))))) + r10)).toNatClampNeg) then (v4 + r13) else (m.1 98 ((((10 : Int32) * (v2 ||| ((1 : Int32) <<< (v5 &&& (31 : Int32))))) + r10)).toNatClampNeg)).toInt = ((m.1 98 ((((10 : Int32) * (v2 ||| ((1 : Int32) <<< (v5 &&& (31 : Int32))))) + r10)).toNatClampNeg)).toInt) := a_ilt
            have ki37 : zI (sm_w1 m 98 ((((10 : Int32) * (v2 ||| ((1 : Int32) <<< (v5 &&& (31 : Int32))))) + r10)).toNatClampNeg (if (v4 + r13) < (m.1 98 ((((10 : Int32) * (v2 ||| ((1 : Int32) <<< (v5 &&& (31 : Int32))))) + r10)).toNatClampNeg) then (v4 + r13) else (m.1 98 ((((10 : Int32) * (v2 ||| ((1 : Int32) <<< (v5 &&& (31 : Int32))))) + r10)).toNatClampNeg))) := zI.w hI rfl (show 0 ≤ ((if (v4 + r13) < (m.1 98 ((((10 : Int32) * (v2 ||| ((1 : Int32) <<< (v5 &&& (31 : Int32))))) + r10)).toNatClampNeg) then (v4 + r13) else (m.1 98 ((((10 : Int32) * (v2 ||| ((1 : Int32) <<< (v5 &&& (31 : Int32))))) + r10)).toNatClampNeg))).toInt ∧ ((if (v4 + r13) < (m.1 98 ((((10 : Int32) * (v2 ||| ((1 : Int32) <<< (v5 &&& (31 : Int32))))) + r10)).toNatClampNeg) then (v4 + r13) else (m.1 98 ((((10 : Int32) * (v2 ||| ((1 : Int32) <<< (v5 &&& (31 : Int32))))) + r10)).toNatClampNeg))).toInt ≤ 1000000 by omega)
            have kf38 : Fr wX12_laysOut m0 (sm_w1 m 98 ((((10 : Int32) * (v2 ||| ((1 : Int32) <<< (v5 &&& (31 : Int32))))) + r10)).toNatClampNeg (if (v4 + r13) < (m.1 98 ((((10 : Int32) * (v2 ||| ((1 : Int32) <<< (v5 &&& (31 : Int32))))) + r10)).toNatClampNeg) then (v4 + r13) else (m.1 98 ((((10 : Int32) * (v2 ||| ((1 : Int32) <<< (v5 &&& (31 : Int32))))) + r10)).toNatClampNeg))) := Fr.w hF rfl
            exact ih v2 v3 v4 (v5 + (1 : Int32)) (sm_w1 m 98 ((((10 : Int32) * (v2 ||| ((1 : Int32) <<< (v5 &&& (31 : Int32))))) + r10)).toNatClampNeg (if (v4 + r13) < (m.1 98 ((((10 : Int32) * (v2 ||| ((1 : Int32) <<< (v5 &&& (31 : Int32))))) + r10)).toNatClampNeg) then (v4 + r13) else (m.1 98 ((((10 : Int32) * (v2 ||| ((1 : Int32) <<< (v5 &&& (31 : Int32))))) + r10)).toNatClampNeg))) (show 0 ≤ v2.toInt ∧ v2.toInt ≤ 16383 ∧ 0 ≤ v3.toInt ∧ v3.toInt ≤ 9 ∧ 0 ≤ v4.toInt ∧ v4.toInt ≤ 1000000 ∧ 0 ≤ (v5 + (1 : Int32)).toInt ∧ (v5 + (1 : Int32)).toInt ≤ 14 ∧ 14 - (v5 + (1 : Int32)).toInt < (n : Int) ∧ 10 - v3.toInt ≤ (Nk49 : Int) ∧ 16384 - v2.toInt ≤ (Nk39 : Int) by omega) ki37 kf38
        · have kc39 : (v5 + (1 : Int32)).toInt = (v5).toInt + 1 := a_addl L1 (by omega) (by omega)
          exact ih v2 v3 v4 (v5 + (1 : Int32)) m (show 0 ≤ v2.toInt ∧ v2.toInt ≤ 16383 ∧ 0 ≤ v3.toInt ∧ v3.toInt ≤ 9 ∧ 0 ≤ v4.toInt ∧ v4.toInt ≤ 1000000 ∧ 0 ≤ (v5 + (1 : Int32)).toInt ∧ (v5 + (1 : Int32)).toInt ≤ 14 ∧ 14 - (v5 + (1 : Int32)).toInt < (n : Int) ∧ 10 - v3.toInt ≤ (Nk49 : Int) ∧ 16384 - v2.toInt ≤ (Nk39 : Int) by omega) hI hF
theorem zX12_laysOut_49 (m0 : sm_S) (k39 : Int32 → sm_S → Option (sm_S)) (Nk39 : Nat) (hk39 : ∀ (v2 : Int32) (m : sm_S), (0 ≤ v2.toInt ∧ v2.toInt ≤ 16384 ∧ 16384 - v2.toInt < (Nk39 : Int)) → zI m → Fr wX12_laysOut m0 m → Sf (fun r => (True) ∧ zI r ∧ Fr wX12_laysOut m0 r) (k39 v2 m)) : ∀ (n : Nat) (v2 : Int32) (v3 : Int32) (m : sm_S), (0 ≤ v2.toInt ∧ v2.toInt ≤ 16383 ∧ 0 ≤ v3.toInt ∧ v3.toInt ≤ 10 ∧ 10 - v3.toInt < (n : Int) ∧ 16384 - v2.toInt ≤ (Nk39 : Int)) → zI m → Fr wX12_laysOut m0 m → Sf (fun r => (True) ∧ zI r ∧ Fr wX12_laysOut m0 r) (fX12_laysOut_49 k39 n v2 v3 m) := by
  intro n
  induction n with
  | zero =>
    intro v2 v3 m hp hI hF
    exfalso
    omega
  | succ n ih =>
    intro v2 v3 m hp hI hF
    have hnn : ((n + 1 : Nat) : Int) = (n : Int) + 1 := by omega
    have hfu := fuE
    unfold fX12_laysOut_49
    have kc1 : 0 ≤ (m.1 72 3).toInt ∧ (m.1 72 3).toInt ≤ 10 := hI.1 72 3
    refine s_le (fun kh2 => ?_) (fun kh2 => ?_)
    · have kc3 : (v2 + (1 : Int32)).toInt = (v2).toInt + 1 := a_addl L1 (by omega) (by omega)
      exact hk39 (v2 + (1 : Int32)) m (show 0 ≤ (v2 + (1 : Int32)).toInt ∧ (v2 + (1 : Int32)).toInt ≤ 16384 ∧ 16384 - (v2 + (1 : Int32)).toInt < (Nk39 : Int) by omega) hI hF
    · have kc4 := L10
      have kc5 : ((10 : Int32) * v2).toInt = 10 * (v2).toInt := a_mul L10 rfl (by omega) (by omega)
      have kc6 : (((10 : Int32) * v2) + v3).toInt = (((10 : Int32) * v2)).toInt + (v3).toInt := a_add (by omega) (by omega)
      have kx7 : 0 ≤ ((((10 : Int32) * v2) + v3)).toInt ∧ ((((10 : Int32) * v2) + v3)).toInt < (163840 : Int) := by omega
      refine s_ix kx7 ?_
      have kc8 : 0 ≤ (m.1 98 ((((10 : Int32) * v2) + v3)).toNatClampNeg).toInt ∧ (m.1 98 ((((10 : Int32) * v2) + v3)).toNatClampNeg).toInt ≤ 1000000 := hI.1 98 ((((10 : Int32) * v2) + v3)).toNatClampNeg
      have kc9 := L0
      exact zX12_laysOut_73 m0 k39 Nk39 hk39 (fX12_laysOut_49 k39 n) n ih sm_fu v2 v3 (m.1 98 ((((10 : Int32) * v2) + v3)).toNatClampNeg) (0 : Int32) m (show 0 ≤ v2.toInt ∧ v2.toInt ≤ 16383 ∧ 0 ≤ v3.toInt ∧ v3.toInt ≤ 9 ∧ 0 ≤ (m.1 98 ((((10 : Int32) * v2) + v3)).toNatClampNeg).toInt ∧ (m.1 98 ((((10 : Int32) * v2) + v3)).toNatClampNeg).toInt ≤ 1000000 ∧ 0 ≤ (0 : Int32).toInt ∧ (0 : Int32).toInt ≤ 14 ∧ 14 - (0 : Int32).toInt < (sm_fu : Int) ∧ 10 - v3.toInt ≤ (n : Int) ∧ 16384 - v2.toInt ≤ (Nk39 : Int) by omega) hI hF
theorem zX12_laysOut_39 (m0 : sm_S) : ∀ (n : Nat) (v2 : Int32) (m : sm_S), (0 ≤ v2.toInt ∧ v2.toInt ≤ 16384 ∧ 16384 - v2.toInt < (n : Int)) → zI m → Fr wX12_laysOut m0 m → Sf (fun r => (True) ∧ zI r ∧ Fr wX12_laysOut m0 r) (fX12_laysOut_39 n v2 m) := by
  intro n
  induction n with
  | zero =>
    intro v2 m hp hI hF
    exfalso
    omega
  | succ n ih =>
    intro v2 m hp hI hF
    have hnn : ((n + 1 : Nat) : Int) = (n : Int) + 1 := by omega
    have hfu := fuE
    unfold fX12_laysOut_39
    refine s_bd (zX12_allHedges m hI) (fun r3 kr1 => ?_)
    replace kr1 : (0 ≤ r3.toInt) ∧ (r3.toInt ≤ 16383) := kr1
    refine s_lt (fun kh2 => ?_) (fun kh2 => ?_)
    · exact s_ret ⟨trivial, hI, hF⟩
    · have kc3 := L0
      exact zX12_laysOut_49 m0 (fX12_laysOut_39 n) n ih sm_fu v2 (0 : Int32) m (show 0 ≤ v2.toInt ∧ v2.toInt ≤ 16383 ∧ 0 ≤ (0 : Int32).toInt ∧ (0 : Int32).toInt ≤ 10 ∧ 10 - (0 : Int32).toInt < (sm_fu : Int) ∧ 16384 - v2.toInt ≤ (n : Int) by omega) hI hF
theorem zX12_laysOut_2 (m0 : sm_S) : ∀ (n : Nat) (v1 : Int32) (v2 : Int32) (m : sm_S), (0 ≤ v1.toInt ∧ v1.toInt ≤ 9 ∧ 0 ≤ v2.toInt ∧ v2.toInt ≤ 163840 ∧ 163840 - v2.toInt < (n : Int)) → zI m → Fr wX12_laysOut m0 m → Sf (fun r => (True) ∧ zI r ∧ Fr wX12_laysOut m0 r) (fX12_laysOut_2 n v1 v2 m) := by
  intro n
  induction n with
  | zero =>
    intro v1 v2 m hp hI hF
    exfalso
    omega
  | succ n ih =>
    intro v1 v2 m hp hI hF
    have hnn : ((n + 1 : Nat) : Int) = (n : Int) + 1 := by omega
    have hfu := fuE
    unfold fX12_laysOut_2
    have kc1 := L1
    have kc2 : 0 ≤ (m.1 72 6).toInt ∧ (m.1 72 6).toInt ≤ 14 := hI.1 72 6
    have kc3 : 0 ≤ (m.1 72 25).toInt ∧ (m.1 72 25).toInt ≤ 14 := hI.1 72 25
    have kc4 := zI.le hI
    have kc5 := L31
    have kc6 : 0 ≤ ((m.1 72 6) &&& (31 : Int32)).toInt ∧ ((m.1 72 6) &&& (31 : Int32)).toInt ≤ ((31 : Int32)).toInt := a_andr (by omega)
    have kc7 : 0 ≤ ((m.1 72 6) &&& (31 : Int32)).toInt ∧ ((m.1 72 6) &&& (31 : Int32)).toInt ≤ ((m.1 72 6)).toInt := a_andl (by omega)
    have kc8 : 1 ≤ ((1 : Int32) <<< ((m.1 72 6) &&& (31 : Int32))).toInt ∧ ((1 : Int32) <<< ((m.1 72 6) &&& (31 : Int32))).toInt ≤ 16384 := a_shl 14 (by decide) (by decide) (by omega) (by omega)
    have kc9 := L10
    have kc10 : (((1 : Int32) <<< ((m.1 72 6) &&& (31 : Int32))) * (10 : Int32)).toInt = (((1 : Int32) <<< ((m.1 72 6) &&& (31 : Int32)))).toInt * 10 := a_mul rfl L10 (by omega) (by omega)
    refine s_le (fun kh11 => ?_) (fun kh11 => ?_)
    · have kx12 : 0 ≤ (v1).toInt ∧ (v1).toInt < (163840 : Int) := by omega
      refine s_ix kx12 ?_
      have kc13 := L0
      have ki14 : zI (sm_w1 m 98 (v1).toNatClampNeg (0 : Int32)) := zI.w hI rfl (show 0 ≤ ((0 : Int32)).toInt ∧ ((0 : Int32)).toInt ≤ 1000000 by omega)
      have kf15 : Fr wX12_laysOut m0 (sm_w1 m 98 (v1).toNatClampNeg (0 : Int32)) := Fr.w hF rfl
      exact zX12_laysOut_39 m0 sm_fu (0 : Int32) (sm_w1 m 98 (v1).toNatClampNeg (0 : Int32)) (show 0 ≤ (0 : Int32).toInt ∧ (0 : Int32).toInt ≤ 16384 ∧ 16384 - (0 : Int32).toInt < (sm_fu : Int) by omega) ki14 kf15
    · have kx16 : 0 ≤ (v2).toInt ∧ (v2).toInt < (163840 : Int) := by omega
      refine s_ix kx16 ?_
      have kc17 : (v2 + (1 : Int32)).toInt = (v2).toInt + 1 := a_addl L1 (by omega) (by omega)
      have kc18 := L1000000
      have ki19 : zI (sm_w1 m 98 (v2).toNatClampNeg (1000000 : Int32)) := zI.w hI rfl (show 0 ≤ ((1000000 : Int32)).toInt ∧ ((1000000 : Int32)).toInt ≤ 1000000 by omega)
      have kf20 : Fr wX12_laysOut m0 (sm_w1 m 98 (v2).toNatClampNeg (1000000 : Int32)) := Fr.w hF rfl
      exact ih v1 (v2 + (1 : Int32)) (sm_w1 m 98 (v2).toNatClampNeg (1000000 : Int32)) (show 0 ≤ v1.toInt ∧ v1.toInt ≤ 9 ∧ 0 ≤ (v2 + (1 : Int32)).toInt ∧ (v2 + (1 : Int32)).toInt ≤ 163840 ∧ 163840 - (v2 + (1 : Int32)).toInt < (n : Int) by omega) ki19 kf20
theorem zX12_laysOut (x1 : Int32) (m : sm_S) (hp : 0 ≤ x1.toInt ∧ x1.toInt ≤ 9) (hI : zI m) : Sf (fun r => (True) ∧ zI r ∧ Fr wX12_laysOut m r) (fX12_laysOut x1 m) := by
  have hfu := fuE
  unfold fX12_laysOut
  have kc1 := L0
  exact zX12_laysOut_2 m sm_fu x1 (0 : Int32) m (show 0 ≤ x1.toInt ∧ x1.toInt ≤ 9 ∧ 0 ≤ (0 : Int32).toInt ∧ (0 : Int32).toInt ≤ 163840 ∧ 163840 - (0 : Int32).toInt < (sm_fu : Int) by omega) hI Fr.refl
theorem zX12_soonest_7 : ∀ (n : Nat) (v1 : Int32) (v2 : Int32) (v3 : Int32) (v4 : Int32) (m : sm_S), (0 ≤ v1.toInt ∧ v1.toInt ≤ 16383 ∧ (-1 : Int) ≤ v2.toInt ∧ v2.toInt ≤ 9 ∧ 0 ≤ v3.toInt ∧ v3.toInt ≤ 1000000 ∧ 0 ≤ v4.toInt ∧ v4.toInt ≤ 10 ∧ 10 - v4.toInt < (n : Int)) → zI m → Sf (fun r => (0 ≤ r.toInt) ∧ (r.toInt ≤ 1000000)) (fX12_soonest_7 n v1 v2 v3 v4 m) := by
  intro n
  induction n with
  | zero =>
    intro v1 v2 v3 v4 m hp hI
    exfalso
    omega
  | succ n ih =>
    intro v1 v2 v3 v4 m hp hI
    have hnn : ((n + 1 : Nat) : Int) = (n : Int) + 1 := by omega
    have hfu := fuE
    unfold fX12_soonest_7
    have kc1 : 0 ≤ (m.1 72 3).toInt ∧ (m.1 72 3).toInt ≤ 10 := hI.1 72 3
    refine s_le (fun kh2 => ?_) (fun kh2 => ?_)
    · exact s_ret (show (0 ≤ v3.toInt) ∧ (v3.toInt ≤ 1000000) by omega)
    · have kc3 := L0
      refine s_lt (fun kh4 => ?_) (fun kh4 => ?_)
      · have kc5 := L10
        have kc6 : ((10 : Int32) * v1).toInt = 10 * (v1).toInt := a_mul L10 rfl (by omega) (by omega)
        have kc7 : (((10 : Int32) * v1) + v4).toInt = (((10 : Int32) * v1)).toInt + (v4).toInt := a_add (by omega) (by omega)
        have kx8 : 0 ≤ ((((10 : Int32) * v1) + v4)).toInt ∧ ((((10 : Int32) * v1) + v4)).toInt < (163840 : Int) := by omega
        refine s_ix kx8 ?_
        have kc9 : 0 ≤ (m.1 98 ((((10 : Int32) * v1) + v4)).toNatClampNeg).toInt ∧ (m.1 98 ((((10 : Int32) * v1) + v4)).toNatClampNeg).toInt ≤ 1000000 := hI.1 98 ((((10 : Int32) * v1) + v4)).toNatClampNeg
        have kc10 : (((m.1 98 ((((10 : Int32) * v1) + v4)).toNatClampNeg)).toInt < (v3).toInt ∧ (if (m.1 98 ((((10 : Int32) * v1) + v4)).toNatClampNeg) < v3 then (m.1 98 ((((10 : Int32) * v1) + v4)).toNatClampNeg) else v3).toInt = ((m.1 98 ((((10 : Int32) * v1) + v4)).toNatClampNeg)).toInt) ∨ ((v3).toInt ≤ ((m.1 98 ((((10 : Int32) * v1) + v4)).toNatClampNeg)).toInt ∧ (if (m.1 98 ((((10 : Int32) * v1) + v4)).toNatClampNeg) < v3 then (m.1 98 ((((10 : Int32) * v1) + v4)).toNatClampNeg) else v3).toInt = (v3).toInt) := a_ilt
        have kc11 : (v4 + (1 : Int32)).toInt = (v4).toInt + 1 := a_addl L1 (by omega) (by omega)
        exact ih v1 v2 (if (m.1 98 ((((10 : Int32) * v1) + v4)).toNatClampNeg) < v3 then (m.1 98 ((((10 : Int32) * v1) + v4)).toNatClampNeg) else v3) (v4 + (1 : Int32)) m (show 0 ≤ v1.toInt ∧ v1.toInt ≤ 16383 ∧ (-1 : Int) ≤ v2.toInt ∧ v2.toInt ≤ 9 ∧ 0 ≤ (if (m.1 98 ((((10 : Int32) * v1) + v4)).toNatClampNeg) < v3 then (m.1 98 ((((10 : Int32) * v1) + v4)).toNatClampNeg) else v3).toInt ∧ (if (m.1 98 ((((10 : Int32) * v1) + v4)).toNatClampNeg) < v3 then (m.1 98 ((((10 : Int32) * v1) + v4)).toNatClampNeg) else v3).toInt ≤ 1000000 ∧ 0 ≤ (v4 + (1 : Int32)).toInt ∧ (v4 + (1 : Int32)).toInt ≤ 10 ∧ 10 - (v4 + (1 : Int32)).toInt < (n : Int) by omega) hI
      · refine s_eq (fun kh12 => ?_) (fun kh12 => ?_)
        · have kc13 := L10
          have kc14 : ((10 : Int32) * v1).toInt = 10 * (v1).toInt := a_mul L10 rfl (by omega) (by omega)
          have kc15 : (((10 : Int32) * v1) + v4).toInt = (((10 : Int32) * v1)).toInt + (v4).toInt := a_add (by omega) (by omega)
          have kx16 : 0 ≤ ((((10 : Int32) * v1) + v4)).toInt ∧ ((((10 : Int32) * v1) + v4)).toInt < (163840 : Int) := by omega
          refine s_ix kx16 ?_
          have kc17 : 0 ≤ (m.1 98 ((((10 : Int32) * v1) + v4)).toNatClampNeg).toInt ∧ (m.1 98 ((((10 : Int32) * v1) + v4)).toNatClampNeg).toInt ≤ 1000000 := hI.1 98 ((((10 : Int32) * v1) + v4)).toNatClampNeg
          have kc18 : (((m.1 98 ((((10 : Int32) * v1) + v4)).toNatClampNeg)).toInt < (v3).toInt ∧ (if (m.1 98 ((((10 : Int32) * v1) + v4)).toNatClampNeg) < v3 then (m.1 98 ((((10 : Int32) * v1) + v4)).toNatClampNeg) else v3).toInt = ((m.1 98 ((((10 : Int32) * v1) + v4)).toNatClampNeg)).toInt) ∨ ((v3).toInt ≤ ((m.1 98 ((((10 : Int32) * v1) + v4)).toNatClampNeg)).toInt ∧ (if (m.1 98 ((((10 : Int32) * v1) + v4)).toNatClampNeg) < v3 then (m.1 98 ((((10 : Int32) * v1) + v4)).toNatClampNeg) else v3).toInt = (v3).toInt) := a_ilt
          have kc19 : (v4 + (1 : Int32)).toInt = (v4).toInt + 1 := a_addl L1 (by omega) (by omega)
          exact ih v1 v2 (if (m.1 98 ((((10 : Int32) * v1) + v4)).toNatClampNeg) < v3 then (m.1 98 ((((10 : Int32) * v1) + v4)).toNatClampNeg) else v3) (v4 + (1 : Int32)) m (show 0 ≤ v1.toInt ∧ v1.toInt ≤ 16383 ∧ (-1 : Int) ≤ v2.toInt ∧ v2.toInt ≤ 9 ∧ 0 ≤ (if (m.1 98 ((((10 : Int32) * v1) + v4)).toNatClampNeg) < v3 then (m.1 98 ((((10 : Int32) * v1) + v4)).toNatClampNeg) else v3).toInt ∧ (if (m.1 98 ((((10 : Int32) * v1) + v4)).toNatClampNeg) < v3 then (m.1 98 ((((10 : Int32) * v1) + v4)).toNatClampNeg) else v3).toInt ≤ 1000000 ∧ 0 ≤ (v4 + (1 : Int32)).toInt ∧ (v4 + (1 : Int32)).toInt ≤ 10 ∧ 10 - (v4 + (1 : Int32)).toInt < (n : Int) by omega) hI
        · have kc20 : (v4 + (1 : Int32)).toInt = (v4).toInt + 1 := a_addl L1 (by omega) (by omega)
          exact ih v1 v2 v3 (v4 + (1 : Int32)) m (show 0 ≤ v1.toInt ∧ v1.toInt ≤ 16383 ∧ (-1 : Int) ≤ v2.toInt ∧ v2.toInt ≤ 9 ∧ 0 ≤ v3.toInt ∧ v3.toInt ≤ 1000000 ∧ 0 ≤ (v4 + (1 : Int32)).toInt ∧ (v4 + (1 : Int32)).toInt ≤ 10 ∧ 10 - (v4 + (1 : Int32)).toInt < (n : Int) by omega) hI
theorem zX12_soonest (x1 : Int32) (x2 : Int32) (m : sm_S) (hp : 0 ≤ x1.toInt ∧ x1.toInt ≤ 16383 ∧ (-1 : Int) ≤ x2.toInt ∧ x2.toInt ≤ 9) (hI : zI m) : Sf (fun r => (0 ≤ r.toInt) ∧ (r.toInt ≤ 1000000)) (fX12_soonest x1 x2 m) := by
  have hfu := fuE
  unfold fX12_soonest
  have kc1 := L1000000
  have kc2 := L0
  exact zX12_soonest_7 sm_fu x1 x2 (1000000 : Int32) (0 : Int32) m (show 0 ≤ x1.toInt ∧ x1.toInt ≤ 16383 ∧ (-1 : Int) ≤ x2.toInt ∧ x2.toInt ≤ 9 ∧ 0 ≤ (1000000 : Int32).toInt ∧ (1000000 : Int32).toInt ≤ 1000000 ∧ 0 ≤ (0 : Int32).toInt ∧ (0 : Int32).toInt ≤ 10 ∧ 10 - (0 : Int32).toInt < (sm_fu : Int) by omega) hI
theorem zX12_worthOf_4 : ∀ (n : Nat) (v1 : Int32) (v2 : Int32) (v3 : Int32) (m : sm_S), (0 ≤ v1.toInt ∧ v1.toInt ≤ 16383 ∧ 0 ≤ v3.toInt ∧ v3.toInt ≤ 14 ∧ 14 - v3.toInt < (n : Int)) → zI m → Sf (fun r => True) (fX12_worthOf_4 n v1 v2 v3 m) := by
  intro n
  induction n with
  | zero =>
    intro v1 v2 v3 m hp hI
    exfalso
    omega
  | succ n ih =>
    intro v1 v2 v3 m hp hI
    have hnn : ((n + 1 : Nat) : Int) = (n : Int) + 1 := by omega
    have hfu := fuE
    unfold fX12_worthOf_4
    have kc1 : 0 ≤ (m.1 72 6).toInt ∧ (m.1 72 6).toInt ≤ 14 := hI.1 72 6
    have kc2 : 0 ≤ (m.1 72 25).toInt ∧ (m.1 72 25).toInt ≤ 14 := hI.1 72 25
    have kc3 := zI.le hI
    refine s_le (fun kh4 => ?_) (fun kh4 => ?_)
    · exact s_ret trivial
    · refine s_bd (zX12_has v1 v3 m (show 0 ≤ v1.toInt ∧ v1.toInt ≤ 16383 ∧ 0 ≤ v3.toInt ∧ v3.toInt ≤ 13 by omega) hI) (fun r2 kr5 => ?_)
      replace kr5 : (0 ≤ r2.toInt) ∧ (r2.toInt ≤ 1) := kr5
      have kc6 := L0
      refine s_eq (fun kh7 => ?_) (fun kh7 => ?_)
      · have kc8 := rg v2
        have kc9 : (v2 + (0 : Int32)).toInt = (v2).toInt + 0 := a_addl L0 (by omega) (by omega)
        have kc10 : (v3 + (1 : Int32)).toInt = (v3).toInt + 1 := a_addl L1 (by omega) (by omega)
        exact ih v1 (v2 + (0 : Int32)) (v3 + (1 : Int32)) m (show 0 ≤ v1.toInt ∧ v1.toInt ≤ 16383 ∧ 0 ≤ (v3 + (1 : Int32)).toInt ∧ (v3 + (1 : Int32)).toInt ≤ 14 ∧ 14 - (v3 + (1 : Int32)).toInt < (n : Int) by omega) hI
      · have kx11 : 0 ≤ (v3).toInt ∧ (v3).toInt < (14 : Int) := by omega
        refine s_ix kx11 ?_
        have kc12 : (-1 : Int) ≤ (m.1 81 (v3).toNatClampNeg).toInt ∧ (m.1 81 (v3).toNatClampNeg).toInt ≤ 9 := hI.1 81 (v3).toNatClampNeg
        have kc13 : (v3 + (1 : Int32)).toInt = (v3).toInt + 1 := a_addl L1 (by omega) (by omega)
        exact ih v1 (v2 + (m.1 81 (v3).toNatClampNeg)) (v3 + (1 : Int32)) m (show 0 ≤ v1.toInt ∧ v1.toInt ≤ 16383 ∧ 0 ≤ (v3 + (1 : Int32)).toInt ∧ (v3 + (1 : Int32)).toInt ≤ 14 ∧ 14 - (v3 + (1 : Int32)).toInt < (n : Int) by omega) hI
theorem zX12_worthOf (x1 : Int32) (m : sm_S) (hp : 0 ≤ x1.toInt ∧ x1.toInt ≤ 16383) (hI : zI m) : Sf (fun r => True) (fX12_worthOf x1 m) := by
  have hfu := fuE
  unfold fX12_worthOf
  have kc1 := L0
  exact zX12_worthOf_4 sm_fu x1 (0 : Int32) (0 : Int32) m (show 0 ≤ x1.toInt ∧ x1.toInt ≤ 16383 ∧ 0 ≤ (0 : Int32).toInt ∧ (0 : Int32).toInt ≤ 14 ∧ 14 - (0 : Int32).toInt < (sm_fu : Int) by omega) hI
theorem zX12_mostBy_17 (m0 : sm_S) : ∀ (n : Nat) (v2 : Int32) (v3 : Int32) (v4 : Int32) (v5 : Int32) (v6 : Int32) (v7 : Int32) (m : sm_S), (0 ≤ v2.toInt ∧ v2.toInt ≤ 9999 ∧ (-1 : Int) ≤ v3.toInt ∧ v3.toInt ≤ 9 ∧ 0 ≤ v4.toInt ∧ v4.toInt ≤ 16383 ∧ 0 ≤ v6.toInt ∧ v6.toInt ≤ 9999 ∧ 0 ≤ v7.toInt ∧ v7.toInt ≤ 16384 ∧ 16384 - v7.toInt < (n : Int)) → zI m → Fr wX12_mostBy m0 m → Sf (fun r => (True) ∧ zI r.2 ∧ Fr wX12_mostBy m0 r.2) (fX12_mostBy_17 n v2 v3 v4 v5 v6 v7 m) := by
  intro n
  induction n with
  | zero =>
    intro v2 v3 v4 v5 v6 v7 m hp hI hF
    exfalso
    omega
  | succ n ih =>
    intro v2 v3 v4 v5 v6 v7 m hp hI hF
    have hnn : ((n + 1 : Nat) : Int) = (n : Int) + 1 := by omega
    have hfu := fuE
    unfold fX12_mostBy_17
    refine s_bd (zX12_allHedges m hI) (fun r4 kr1 => ?_)
    replace kr1 : (0 ≤ r4.toInt) ∧ (r4.toInt ≤ 16383) := kr1
    refine s_lt (fun kh2 => ?_) (fun kh2 => ?_)
    · have kc3 := L0
      have ki4 : zI (sm_w1 m 72 1 (0 : Int32)) := zI.w hI rfl (show 0 ≤ ((0 : Int32)).toInt ∧ ((0 : Int32)).toInt ≤ 24 by omega)
      have kc5 : 0 ≤ ((sm_w1 m 72 1 (0 : Int32)).1 72 1).toInt ∧ ((sm_w1 m 72 1 (0 : Int32)).1 72 1).toInt ≤ 24 := ki4.1 72 1
      have kc6 : ((sm_w1 m 72 1 (0 : Int32)).1 72 1).toInt = ((0 : Int32)).toInt := rfl
      refine s_bd (zX12_enters v4 (sm_w1 m 72 1 (0 : Int32)) (show ((sm_w1 m 72 1 (0 : Int32)).1 72 1).toInt ≤ 23 by omega) ki4) (fun m6 kr7 => ?_)
      obtain ⟨kp8, ki9, kf10⟩ := kr7
      replace kp8 : ((m6.1 72 1).toInt = ((sm_w1 m 72 1 (0 : Int32)).1 72 1).toInt + 1) := kp8
      have kc11 : 0 ≤ (m6.1 72 1).toInt ∧ (m6.1 72 1).toInt ≤ 24 := ki9.1 72 1
      refine s_bd (zX12_enters v6 m6 (show (m6.1 72 1).toInt ≤ 23 by omega) ki9) (fun m8 kr12 => ?_)
      obtain ⟨kp13, ki14, kf15⟩ := kr12
      replace kp13 : ((m8.1 72 1).toInt = (m6.1 72 1).toInt + 1) := kp13
      have kc16 : 0 ≤ (m8.1 72 1).toInt ∧ (m8.1 72 1).toInt ≤ 24 := ki14.1 72 1
      have kf17 : Fr wX12_mostBy m0 (sm_w1 m 72 1 (0 : Int32)) := Fr.w hF rfl
      have kf18 : Fr wX12_mostBy m0 m6 := Fr.trans kf17 kf10 rfl
      have kf19 : Fr wX12_mostBy m0 m8 := Fr.trans kf18 kf15 rfl
      exact s_ret ⟨trivial, ki14, kf19⟩
    · refine s_bd (zX12_soonest v7 v3 m (show 0 ≤ v7.toInt ∧ v7.toInt ≤ 16383 ∧ (-1 : Int) ≤ v3.toInt ∧ v3.toInt ≤ 9 by omega) hI) (fun r10 kr20 => ?_)
      replace kr20 : (0 ≤ r10.toInt) ∧ (r10.toInt ≤ 1000000) := kr20
      refine s_le (fun kh21 => ?_) (fun kh21 => ?_)
      · refine s_bd (zX12_worthOf v7 m (show 0 ≤ v7.toInt ∧ v7.toInt ≤ 16383 by omega) hI) (fun r12 kr22 => ?_)
        have kc23 := L0
        refine s_lt (fun kh24 => ?_) (fun kh24 => ?_)
        · refine s_bd (zX12_worthOf v7 m (show 0 ≤ v7.toInt ∧ v7.toInt ≤ 16383 by omega) hI) (fun r14 kr25 => ?_)
          have kc26 : (v7 + (1 : Int32)).toInt = (v7).toInt + 1 := a_addl L1 (by omega) (by omega)
          exact ih v2 v3 v7 r14 r10 (v7 + (1 : Int32)) m (show 0 ≤ v2.toInt ∧ v2.toInt ≤ 9999 ∧ (-1 : Int) ≤ v3.toInt ∧ v3.toInt ≤ 9 ∧ 0 ≤ v7.toInt ∧ v7.toInt ≤ 16383 ∧ 0 ≤ r10.toInt ∧ r10.toInt ≤ 9999 ∧ 0 ≤ (v7 + (1 : Int32)).toInt ∧ (v7 + (1 : Int32)).toInt ≤ 16384 ∧ 16384 - (v7 + (1 : Int32)).toInt < (n : Int) by omega) hI hF
        · refine s_eq (fun kh27 => ?_) (fun kh27 => ?_)
          · refine s_le (fun kh28 => ?_) (fun kh28 => ?_)
            · have kc29 : (v7 + (1 : Int32)).toInt = (v7).toInt + 1 := a_addl L1 (by omega) (by omega)
              exact ih v2 v3 v4 v5 v6 (v7 + (1 : Int32)) m (show 0 ≤ v2.toInt ∧ v2.toInt ≤ 9999 ∧ (-1 : Int) ≤ v3.toInt ∧ v3.toInt ≤ 9 ∧ 0 ≤ v4.toInt ∧ v4.toInt ≤ 16383 ∧ 0 ≤ v6.toInt ∧ v6.toInt ≤ 9999 ∧ 0 ≤ (v7 + (1 : Int32)).toInt ∧ (v7 + (1 : Int32)).toInt ≤ 16384 ∧ 16384 - (v7 + (1 : Int32)).toInt < (n : Int) by omega) hI hF
            · refine s_bd (zX12_worthOf v7 m (show 0 ≤ v7.toInt ∧ v7.toInt ≤ 16383 by omega) hI) (fun r16 kr30 => ?_)
              have kc31 : (v7 + (1 : Int32)).toInt = (v7).toInt + 1 := a_addl L1 (by omega) (by omega)
              exact ih v2 v3 v7 r16 r10 (v7 + (1 : Int32)) m (show 0 ≤ v2.toInt ∧ v2.toInt ≤ 9999 ∧ (-1 : Int) ≤ v3.toInt ∧ v3.toInt ≤ 9 ∧ 0 ≤ v7.toInt ∧ v7.toInt ≤ 16383 ∧ 0 ≤ r10.toInt ∧ r10.toInt ≤ 9999 ∧ 0 ≤ (v7 + (1 : Int32)).toInt ∧ (v7 + (1 : Int32)).toInt ≤ 16384 ∧ 16384 - (v7 + (1 : Int32)).toInt < (n : Int) by omega) hI hF
          · have kc32 : (v7 + (1 : Int32)).toInt = (v7).toInt + 1 := a_addl L1 (by omega) (by omega)
            exact ih v2 v3 v4 v5 v6 (v7 + (1 : Int32)) m (show 0 ≤ v2.toInt ∧ v2.toInt ≤ 9999 ∧ (-1 : Int) ≤ v3.toInt ∧ v3.toInt ≤ 9 ∧ 0 ≤ v4.toInt ∧ v4.toInt ≤ 16383 ∧ 0 ≤ v6.toInt ∧ v6.toInt ≤ 9999 ∧ 0 ≤ (v7 + (1 : Int32)).toInt ∧ (v7 + (1 : Int32)).toInt ≤ 16384 ∧ 16384 - (v7 + (1 : Int32)).toInt < (n : Int) by omega) hI hF
      · have kc33 : (v7 + (1 : Int32)).toInt = (v7).toInt + 1 := a_addl L1 (by omega) (by omega)
        exact ih v2 v3 v4 v5 v6 (v7 + (1 : Int32)) m (show 0 ≤ v2.toInt ∧ v2.toInt ≤ 9999 ∧ (-1 : Int) ≤ v3.toInt ∧ v3.toInt ≤ 9 ∧ 0 ≤ v4.toInt ∧ v4.toInt ≤ 16383 ∧ 0 ≤ v6.toInt ∧ v6.toInt ≤ 9999 ∧ 0 ≤ (v7 + (1 : Int32)).toInt ∧ (v7 + (1 : Int32)).toInt ≤ 16384 ∧ 16384 - (v7 + (1 : Int32)).toInt < (n : Int) by omega) hI hF
theorem zX12_mostBy (x1 : Int32) (x2 : Int32) (x3 : Int32) (m : sm_S) (hp : 0 ≤ x1.toInt ∧ x1.toInt ≤ 9 ∧ 0 ≤ x2.toInt ∧ x2.toInt ≤ 9999 ∧ (-1 : Int) ≤ x3.toInt ∧ x3.toInt ≤ 9) (hI : zI m) : Sf (fun r => (True) ∧ zI r.2 ∧ Fr wX12_mostBy m r.2) (fX12_mostBy x1 x2 x3 m) := by
  have hfu := fuE
  unfold fX12_mostBy
  refine s_bd (zX12_laysOut x1 m (show 0 ≤ x1.toInt ∧ x1.toInt ≤ 9 by omega) hI) (fun m2 kr1 => ?_)
  obtain ⟨kp2, ki3, kf4⟩ := kr1
  have kc5 := L0
  have kf6 : Fr wX12_mostBy m m2 := Fr.trans Fr.refl kf4 rfl
  exact zX12_mostBy_17 m sm_fu x2 x3 (0 : Int32) (0 : Int32) (0 : Int32) (0 : Int32) m2 (show 0 ≤ x2.toInt ∧ x2.toInt ≤ 9999 ∧ (-1 : Int) ≤ x3.toInt ∧ x3.toInt ≤ 9 ∧ 0 ≤ (0 : Int32).toInt ∧ (0 : Int32).toInt ≤ 16383 ∧ 0 ≤ (0 : Int32).toInt ∧ (0 : Int32).toInt ≤ 9999 ∧ 0 ≤ (0 : Int32).toInt ∧ (0 : Int32).toInt ≤ 16384 ∧ 16384 - (0 : Int32).toInt < (sm_fu : Int) by omega) ki3 kf6
theorem zX12_most (x1 : Int32) (x2 : Int32) (m : sm_S) (hI : zI m) : Sf (fun r => (True) ∧ zI r.2 ∧ Fr wX12_most m r.2) (fX12_most x1 x2 m) := by
  have hfu := fuE
  unfold fX12_most
  have kc1 := L0
  have ki2 : zI (sm_w1 m 72 0 (0 : Int32)) := zI.w hI rfl (show 0 ≤ ((0 : Int32)).toInt ∧ ((0 : Int32)).toInt ≤ 1 by omega)
  refine s_bd (zX12_isCorner x1 (sm_w1 m 72 0 (0 : Int32)) ki2) (fun r2 kr3 => ?_)
  replace kr3 : (0 ≤ r2.toInt) ∧ (r2.toInt ≤ 1) ∧ ((r2.toInt = 0 ∧ (x1.toInt < 0 ∨ ((sm_w1 m 72 0 (0 : Int32)).1 72 3).toInt ≤ x1.toInt)) ∨ (r2.toInt = 1 ∧ 0 ≤ x1.toInt ∧ x1.toInt < ((sm_w1 m 72 0 (0 : Int32)).1 72 3).toInt)) := kr3
  have kc4 : 0 ≤ ((sm_w1 m 72 0 (0 : Int32)).1 72 3).toInt ∧ ((sm_w1 m 72 0 (0 : Int32)).1 72 3).toInt ≤ 10 := ki2.1 72 3
  have kc5 : ((sm_w1 m 72 0 (0 : Int32)).1 72 3).toInt = (m.1 72 3).toInt := rfl
  have kc6 : 0 ≤ (m.1 72 3).toInt ∧ (m.1 72 3).toInt ≤ 10 := hI.1 72 3
  refine s_eq (fun kh7 => ?_) (fun kh7 => ?_)
  · have kc8 := Ln1
    have kf9 : Fr wX12_most m (sm_w1 m 72 0 (0 : Int32)) := Fr.w Fr.refl rfl
    exact s_ret ⟨trivial, ki2, kf9⟩
  · have kc10 : (x2).toInt64.toInt = (x2).toInt := Int32.toInt_toInt64 _
    have kc11 := LL0
    have kc12 := LL9999
    refine s_bd (zX12_in (x2).toInt64 (0 : Int64) (9999 : Int64) (sm_w1 m 72 0 (0 : Int32)) (show (-1 : Int) ≤ (0 : Int64).toInt ∧ (0 : Int64).toInt ≤ 48 ∧ (-1 : Int) ≤ (9999 : Int64).toInt ∧ (9999 : Int64).toInt ≤ 9999 by omega) ki2) (fun r4 kr13 => ?_)
    replace kr13 : (0 ≤ r4.toInt) ∧ (r4.toInt ≤ 1) ∧ ((r4.toInt = 0 ∧ ((x2).toInt64.toInt < (0 : Int64).toInt ∨ (9999 : Int64).toInt < (x2).toInt64.toInt)) ∨ (r4.toInt = 1 ∧ (0 : Int64).toInt ≤ (x2).toInt64.toInt ∧ (x2).toInt64.toInt ≤ (9999 : Int64).toInt)) := kr13
    refine s_eq (fun kh14 => ?_) (fun kh14 => ?_)
    · have kc15 := Ln1
      have kf16 : Fr wX12_most m (sm_w1 m 72 0 (0 : Int32)) := Fr.w Fr.refl rfl
      exact s_ret ⟨trivial, ki2, kf16⟩
    · have kc17 := Ln1
      refine s_bd (zX12_mostBy x1 x2 (-1 : Int32) (sm_w1 m 72 0 (0 : Int32)) (show 0 ≤ x1.toInt ∧ x1.toInt ≤ 9 ∧ 0 ≤ x2.toInt ∧ x2.toInt ≤ 9999 ∧ (-1 : Int) ≤ (-1 : Int32).toInt ∧ (-1 : Int32).toInt ≤ 9 by omega) ki2) (fun r6 kr18 => ?_)
      obtain ⟨kp19, ki20, kf21⟩ := kr18
      have kf22 : Fr wX12_most m (sm_w1 m 72 0 (0 : Int32)) := Fr.w Fr.refl rfl
      have kf23 : Fr wX12_most m r6.2 := Fr.trans kf22 kf21 rfl
      exact s_ret ⟨trivial, ki20, kf23⟩
theorem zX12_home (x1 : Int32) (x2 : Int32) (m : sm_S) (hI : zI m) : Sf (fun r => (True) ∧ zI r.2 ∧ Fr wX12_home m r.2) (fX12_home x1 x2 m) := by
  have hfu := fuE
  unfold fX12_home
  have kc1 := L0
  have ki2 : zI (sm_w1 m 72 0 (0 : Int32)) := zI.w hI rfl (show 0 ≤ ((0 : Int32)).toInt ∧ ((0 : Int32)).toInt ≤ 1 by omega)
  refine s_bd (zX12_isCorner x1 (sm_w1 m 72 0 (0 : Int32)) ki2) (fun r2 kr3 => ?_)
  replace kr3 : (0 ≤ r2.toInt) ∧ (r2.toInt ≤ 1) ∧ ((r2.toInt = 0 ∧ (x1.toInt < 0 ∨ ((sm_w1 m 72 0 (0 : Int32)).1 72 3).toInt ≤ x1.toInt)) ∨ (r2.toInt = 1 ∧ 0 ≤ x1.toInt ∧ x1.toInt < ((sm_w1 m 72 0 (0 : Int32)).1 72 3).toInt)) := kr3
  have kc4 : 0 ≤ ((sm_w1 m 72 0 (0 : Int32)).1 72 3).toInt ∧ ((sm_w1 m 72 0 (0 : Int32)).1 72 3).toInt ≤ 10 := ki2.1 72 3
  have kc5 : ((sm_w1 m 72 0 (0 : Int32)).1 72 3).toInt = (m.1 72 3).toInt := rfl
  have kc6 : 0 ≤ (m.1 72 3).toInt ∧ (m.1 72 3).toInt ≤ 10 := hI.1 72 3
  refine s_eq (fun kh7 => ?_) (fun kh7 => ?_)
  · have kc8 := Ln1
    have kf9 : Fr wX12_home m (sm_w1 m 72 0 (0 : Int32)) := Fr.w Fr.refl rfl
    exact s_ret ⟨trivial, ki2, kf9⟩
  · have kc10 : (x2).toInt64.toInt = (x2).toInt := Int32.toInt_toInt64 _
    have kc11 := LL0
    have kc12 := LL9999
    refine s_bd (zX12_in (x2).toInt64 (0 : Int64) (9999 : Int64) (sm_w1 m 72 0 (0 : Int32)) (show (-1 : Int) ≤ (0 : Int64).toInt ∧ (0 : Int64).toInt ≤ 48 ∧ (-1 : Int) ≤ (9999 : Int64).toInt ∧ (9999 : Int64).toInt ≤ 9999 by omega) ki2) (fun r4 kr13 => ?_)
    replace kr13 : (0 ≤ r4.toInt) ∧ (r4.toInt ≤ 1) ∧ ((r4.toInt = 0 ∧ ((x2).toInt64.toInt < (0 : Int64).toInt ∨ (9999 : Int64).toInt < (x2).toInt64.toInt)) ∨ (r4.toInt = 1 ∧ (0 : Int64).toInt ≤ (x2).toInt64.toInt ∧ (x2).toInt64.toInt ≤ (9999 : Int64).toInt)) := kr13
    refine s_eq (fun kh14 => ?_) (fun kh14 => ?_)
    · have kc15 := Ln1
      have kf16 : Fr wX12_home m (sm_w1 m 72 0 (0 : Int32)) := Fr.w Fr.refl rfl
      exact s_ret ⟨trivial, ki2, kf16⟩
    · refine s_bd (zX12_mostBy x1 x2 x1 (sm_w1 m 72 0 (0 : Int32)) (show 0 ≤ x1.toInt ∧ x1.toInt ≤ 9 ∧ 0 ≤ x2.toInt ∧ x2.toInt ≤ 9999 ∧ (-1 : Int) ≤ x1.toInt ∧ x1.toInt ≤ 9 by omega) ki2) (fun r6 kr17 => ?_)
      obtain ⟨kp18, ki19, kf20⟩ := kr17
      have kf21 : Fr wX12_home m (sm_w1 m 72 0 (0 : Int32)) := Fr.w Fr.refl rfl
      have kf22 : Fr wX12_home m r6.2 := Fr.trans kf21 kf20 rfl
      exact s_ret ⟨trivial, ki19, kf22⟩
theorem zX12_soon_42 (m0 : sm_S) : ∀ (n : Nat) (v2 : Int32) (v3 : Int32) (v4 : Int32) (v5 : Int32) (m : sm_S), (0 ≤ v2.toInt ∧ v2.toInt ≤ 200 ∧ (-1 : Int) ≤ v3.toInt ∧ v3.toInt ≤ 16383 ∧ 0 ≤ v4.toInt ∧ v4.toInt ≤ 1000000 ∧ 0 ≤ v5.toInt ∧ v5.toInt ≤ 16384 ∧ 16384 - v5.toInt < (n : Int)) → zI m → Fr wX12_soon m0 m → Sf (fun r => (((-2 : Int) ≤ r.1.toInt) ∧ (r.1.toInt ≤ 1000000)) ∧ zI r.2 ∧ Fr wX12_soon m0 r.2) (fX12_soon_42 n v2 v3 v4 v5 m) := by
  intro n
  induction n with
  | zero =>
    intro v2 v3 v4 v5 m hp hI hF
    exfalso
    omega
  | succ n ih =>
    intro v2 v3 v4 v5 m hp hI hF
    have hnn : ((n + 1 : Nat) : Int) = (n : Int) + 1 := by omega
    have hfu := fuE
    unfold fX12_soon_42
    refine s_bd (zX12_allHedges m hI) (fun r8 kr1 => ?_)
    replace kr1 : (0 ≤ r8.toInt) ∧ (r8.toInt ≤ 16383) := kr1
    refine s_lt (fun kh2 => ?_) (fun kh2 => ?_)
    · have kc3 := L0
      refine s_le (fun kh4 => ?_) (fun kh4 => ?_)
      · have ki5 : zI (sm_w1 m 72 1 (0 : Int32)) := zI.w hI rfl (show 0 ≤ ((0 : Int32)).toInt ∧ ((0 : Int32)).toInt ≤ 24 by omega)
        have kc6 : 0 ≤ ((sm_w1 m 72 1 (0 : Int32)).1 72 1).toInt ∧ ((sm_w1 m 72 1 (0 : Int32)).1 72 1).toInt ≤ 24 := ki5.1 72 1
        have kc7 : ((sm_w1 m 72 1 (0 : Int32)).1 72 1).toInt = ((0 : Int32)).toInt := rfl
        refine s_bd (zX12_enters v3 (sm_w1 m 72 1 (0 : Int32)) (show ((sm_w1 m 72 1 (0 : Int32)).1 72 1).toInt ≤ 23 by omega) ki5) (fun m10 kr8 => ?_)
        obtain ⟨kp9, ki10, kf11⟩ := kr8
        replace kp9 : ((m10.1 72 1).toInt = ((sm_w1 m 72 1 (0 : Int32)).1 72 1).toInt + 1) := kp9
        have kc12 : 0 ≤ (m10.1 72 1).toInt ∧ (m10.1 72 1).toInt ≤ 24 := ki10.1 72 1
        have kf13 : Fr wX12_soon m0 (sm_w1 m 72 1 (0 : Int32)) := Fr.w hF rfl
        have kf14 : Fr wX12_soon m0 m10 := Fr.trans kf13 kf11 rfl
        exact s_ret ⟨(show ((-2 : Int) ≤ v4.toInt) ∧ (v4.toInt ≤ 1000000) by omega), ki10, kf14⟩
      · have kc15 := Ln2
        exact s_ret ⟨(show ((-2 : Int) ≤ (-2 : Int32).toInt) ∧ ((-2 : Int32).toInt ≤ 1000000) by omega), hI, hF⟩
    · refine s_bd (zX12_worthOf v5 m (show 0 ≤ v5.toInt ∧ v5.toInt ≤ 16383 by omega) hI) (fun r12 kr16 => ?_)
      refine s_lt (fun kh17 => ?_) (fun kh17 => ?_)
      · have kc18 : (v5 + (1 : Int32)).toInt = (v5).toInt + 1 := a_addl L1 (by omega) (by omega)
        exact ih v2 v3 v4 (v5 + (1 : Int32)) m (show 0 ≤ v2.toInt ∧ v2.toInt ≤ 200 ∧ (-1 : Int) ≤ v3.toInt ∧ v3.toInt ≤ 16383 ∧ 0 ≤ v4.toInt ∧ v4.toInt ≤ 1000000 ∧ 0 ≤ (v5 + (1 : Int32)).toInt ∧ (v5 + (1 : Int32)).toInt ≤ 16384 ∧ 16384 - (v5 + (1 : Int32)).toInt < (n : Int) by omega) hI hF
      · have kc19 := Ln1
        refine s_bd (zX12_soonest v5 (-1 : Int32) m (show 0 ≤ v5.toInt ∧ v5.toInt ≤ 16383 ∧ (-1 : Int) ≤ (-1 : Int32).toInt ∧ (-1 : Int32).toInt ≤ 9 by omega) hI) (fun r14 kr20 => ?_)
        replace kr20 : (0 ≤ r14.toInt) ∧ (r14.toInt ≤ 1000000) := kr20
        refine s_le (fun kh21 => ?_) (fun kh21 => ?_)
        · have kc22 : (v5 + (1 : Int32)).toInt = (v5).toInt + 1 := a_addl L1 (by omega) (by omega)
          exact ih v2 v3 v4 (v5 + (1 : Int32)) m (show 0 ≤ v2.toInt ∧ v2.toInt ≤ 200 ∧ (-1 : Int) ≤ v3.toInt ∧ v3.toInt ≤ 16383 ∧ 0 ≤ v4.toInt ∧ v4.toInt ≤ 1000000 ∧ 0 ≤ (v5 + (1 : Int32)).toInt ∧ (v5 + (1 : Int32)).toInt ≤ 16384 ∧ 16384 - (v5 + (1 : Int32)).toInt < (n : Int) by omega) hI hF
        · refine s_bd (zX12_soonest v5 (-1 : Int32) m (show 0 ≤ v5.toInt ∧ v5.toInt ≤ 16383 ∧ (-1 : Int) ≤ (-1 : Int32).toInt ∧ (-1 : Int32).toInt ≤ 9 by omega) hI) (fun r16 kr23 => ?_)
          replace kr23 : (0 ≤ r16.toInt) ∧ (r16.toInt ≤ 1000000) := kr23
          have kc24 : (v5 + (1 : Int32)).toInt = (v5).toInt + 1 := a_addl L1 (by omega) (by omega)
          exact ih v2 v5 r16 (v5 + (1 : Int32)) m (show 0 ≤ v2.toInt ∧ v2.toInt ≤ 200 ∧ (-1 : Int) ≤ v5.toInt ∧ v5.toInt ≤ 16383 ∧ 0 ≤ r16.toInt ∧ r16.toInt ≤ 1000000 ∧ 0 ≤ (v5 + (1 : Int32)).toInt ∧ (v5 + (1 : Int32)).toInt ≤ 16384 ∧ 16384 - (v5 + (1 : Int32)).toInt < (n : Int) by omega) hI hF
theorem zX12_soon (x1 : Int32) (x2 : Int32) (m : sm_S) (hI : zI m) : Sf (fun r => (((-2 : Int) ≤ r.1.toInt) ∧ (r.1.toInt ≤ 1000000)) ∧ zI r.2 ∧ Fr wX12_soon m r.2) (fX12_soon x1 x2 m) := by
  have hfu := fuE
  unfold fX12_soon
  have kc1 := L0
  have ki2 : zI (sm_w1 m 72 0 (0 : Int32)) := zI.w hI rfl (show 0 ≤ ((0 : Int32)).toInt ∧ ((0 : Int32)).toInt ≤ 1 by omega)
  refine s_bd (zX12_isCorner x1 (sm_w1 m 72 0 (0 : Int32)) ki2) (fun r2 kr3 => ?_)
  replace kr3 : (0 ≤ r2.toInt) ∧ (r2.toInt ≤ 1) ∧ ((r2.toInt = 0 ∧ (x1.toInt < 0 ∨ ((sm_w1 m 72 0 (0 : Int32)).1 72 3).toInt ≤ x1.toInt)) ∨ (r2.toInt = 1 ∧ 0 ≤ x1.toInt ∧ x1.toInt < ((sm_w1 m 72 0 (0 : Int32)).1 72 3).toInt)) := kr3
  have kc4 : 0 ≤ ((sm_w1 m 72 0 (0 : Int32)).1 72 3).toInt ∧ ((sm_w1 m 72 0 (0 : Int32)).1 72 3).toInt ≤ 10 := ki2.1 72 3
  have kc5 : ((sm_w1 m 72 0 (0 : Int32)).1 72 3).toInt = (m.1 72 3).toInt := rfl
  have kc6 : 0 ≤ (m.1 72 3).toInt ∧ (m.1 72 3).toInt ≤ 10 := hI.1 72 3
  refine s_eq (fun kh7 => ?_) (fun kh7 => ?_)
  · have kc8 := Ln1
    have kf9 : Fr wX12_soon m (sm_w1 m 72 0 (0 : Int32)) := Fr.w Fr.refl rfl
    exact s_ret ⟨(show ((-2 : Int) ≤ (-1 : Int32).toInt) ∧ ((-1 : Int32).toInt ≤ 1000000) by omega), ki2, kf9⟩
  · have kc10 : (x2).toInt64.toInt = (x2).toInt := Int32.toInt_toInt64 _
    have kc11 := LL0
    have kc12 := LL200
    refine s_bd (zX12_in (x2).toInt64 (0 : Int64) (200 : Int64) (sm_w1 m 72 0 (0 : Int32)) (show (-1 : Int) ≤ (0 : Int64).toInt ∧ (0 : Int64).toInt ≤ 48 ∧ (-1 : Int) ≤ (200 : Int64).toInt ∧ (200 : Int64).toInt ≤ 9999 by omega) ki2) (fun r4 kr13 => ?_)
    replace kr13 : (0 ≤ r4.toInt) ∧ (r4.toInt ≤ 1) ∧ ((r4.toInt = 0 ∧ ((x2).toInt64.toInt < (0 : Int64).toInt ∨ (200 : Int64).toInt < (x2).toInt64.toInt)) ∨ (r4.toInt = 1 ∧ (0 : Int64).toInt ≤ (x2).toInt64.toInt ∧ (x2).toInt64.toInt ≤ (200 : Int64).toInt)) := kr13
    refine s_eq (fun kh14 => ?_) (fun kh14 => ?_)
    · have kc15 := Ln1
      have kf16 : Fr wX12_soon m (sm_w1 m 72 0 (0 : Int32)) := Fr.w Fr.refl rfl
      exact s_ret ⟨(show ((-2 : Int) ≤ (-1 : Int32).toInt) ∧ ((-1 : Int32).toInt ≤ 1000000) by omega), ki2, kf16⟩
    · refine s_bd (zX12_laysOut x1 (sm_w1 m 72 0 (0 : Int32)) (show 0 ≤ x1.toInt ∧ x1.toInt ≤ 9 by omega) ki2) (fun m6 kr17 => ?_)
      obtain ⟨kp18, ki19, kf20⟩ := kr17
      have kc21 := Ln1
      have kc22 := L1000000
      have kf23 : Fr wX12_soon m (sm_w1 m 72 0 (0 : Int32)) := Fr.w Fr.refl rfl
      have kf24 : Fr wX12_soon m m6 := Fr.trans kf23 kf20 rfl
      exact zX12_soon_42 m sm_fu x2 (-1 : Int32) (1000000 : Int32) (0 : Int32) m6 (show 0 ≤ x2.toInt ∧ x2.toInt ≤ 200 ∧ (-1 : Int) ≤ (-1 : Int32).toInt ∧ (-1 : Int32).toInt ≤ 16383 ∧ 0 ≤ (1000000 : Int32).toInt ∧ (1000000 : Int32).toInt ≤ 1000000 ∧ 0 ≤ (0 : Int32).toInt ∧ (0 : Int32).toInt ≤ 16384 ∧ 16384 - (0 : Int32).toInt < (sm_fu : Int) by omega) ki19 kf24
theorem zX12_bridges_9 (m0 : sm_S) : ∀ (n : Nat) (v1 : Int32) (v2 : Int32) (m : sm_S), (0 ≤ v1.toInt ∧ v1.toInt ≤ 16383 ∧ 0 ≤ v2.toInt ∧ v2.toInt ≤ 14 ∧ 14 - v2.toInt < (n : Int)) → zI m → Fr wX12_bridges m0 m → Sf (fun r => ((0 ≤ r.1.toInt) ∧ (r.1.toInt ≤ 16383)) ∧ zI r.2 ∧ Fr wX12_bridges m0 r.2) (fX12_bridges_9 n v1 v2 m) := by
  intro n
  induction n with
  | zero =>
    intro v1 v2 m hp hI hF
    exfalso
    omega
  | succ n ih =>
    intro v1 v2 m hp hI hF
    have hnn : ((n + 1 : Nat) : Int) = (n : Int) + 1 := by omega
    have hfu := fuE
    unfold fX12_bridges_9
    have kc1 : 0 ≤ (m.1 72 6).toInt ∧ (m.1 72 6).toInt ≤ 14 := hI.1 72 6
    have kc2 : 0 ≤ (m.1 72 25).toInt ∧ (m.1 72 25).toInt ≤ 14 := hI.1 72 25
    have kc3 := zI.le hI
    refine s_le (fun kh4 => ?_) (fun kh4 => ?_)
    · exact s_ret ⟨(show (0 ≤ v1.toInt) ∧ (v1.toInt ≤ 16383) by omega), hI, hF⟩
    · refine s_bd (zX12_allHedges m hI) (fun r2 kr5 => ?_)
      replace kr5 : (0 ≤ r2.toInt) ∧ (r2.toInt ≤ 16383) := kr5
      have kc6 := L1
      have kc7 := L31
      have kc8 : 0 ≤ (v2 &&& (31 : Int32)).toInt ∧ (v2 &&& (31 : Int32)).toInt ≤ ((31 : Int32)).toInt := a_andr (by omega)
      have kc9 : 0 ≤ (v2 &&& (31 : Int32)).toInt ∧ (v2 &&& (31 : Int32)).toInt ≤ (v2).toInt := a_andl (by omega)
      have kc10 : 1 ≤ ((1 : Int32) <<< (v2 &&& (31 : Int32))).toInt ∧ ((1 : Int32) <<< (v2 &&& (31 : Int32))).toInt ≤ 8192 := a_shl 13 (by decide) (by decide) (by omega) (by omega)
      have kc11 := Ln1
      have kc12 : 0 ≤ (r2 &&& (((1 : Int32) <<< (v2 &&& (31 : Int32))) ^^^ (-1 : Int32))).toInt ∧ (r2 &&& (((1 : Int32) <<< (v2 &&& (31 : Int32))) ^^^ (-1 : Int32))).toInt ≤ (r2).toInt := a_andl (by omega)
      refine s_bd (zX12_parts (r2 &&& (((1 : Int32) <<< (v2 &&& (31 : Int32))) ^^^ (-1 : Int32))) m (show 0 ≤ (r2 &&& (((1 : Int32) <<< (v2 &&& (31 : Int32))) ^^^ (-1 : Int32))).toInt ∧ (r2 &&& (((1 : Int32) <<< (v2 &&& (31 : Int32))) ^^^ (-1 : Int32))).toInt ≤ 16383 by omega) hI) (fun m4 kr13 => ?_)
      obtain ⟨kp14, ki15, kf16⟩ := kr13
      have kx17 : 0 ≤ (v2).toInt ∧ (v2).toInt < (14 : Int) := by omega
      refine s_ix kx17 ?_
      have kc18 : (-1 : Int) ≤ (m4.1 76 (v2).toNatClampNeg).toInt ∧ (m4.1 76 (v2).toNatClampNeg).toInt ≤ 9 := ki15.1 76 (v2).toNatClampNeg
      have kc19 : 0 ≤ (m4.1 72 6).toInt ∧ (m4.1 72 6).toInt ≤ 14 := ki15.1 72 6
      have kc20 : 0 ≤ (m4.1 72 25).toInt ∧ (m4.1 72 25).toInt ≤ 14 := ki15.1 72 25
      have kc21 := zI.le ki15
      have kc22 : (m4.1 72 25).toInt = (m.1 72 25).toInt := congrArg Int32.toInt (kf16 72 25 rfl)
      have kc23 : (m4.1 72 6).toInt = (m.1 72 6).toInt := congrArg Int32.toInt (kf16 72 6 rfl)
      have kc24 : 0 ≤ (m4.1 76 (v2).toNatClampNeg).toInt := zI.pf76 ki15 v2 (by omega) (by omega)
      have kc25 : (m4.1 76 (v2).toNatClampNeg).toInt = (m.1 76 (v2).toNatClampNeg).toInt := congrArg Int32.toInt (kf16 76 (v2).toNatClampNeg rfl)
      have kc26 : (-1 : Int) ≤ (m.1 76 (v2).toNatClampNeg).toInt ∧ (m.1 76 (v2).toNatClampNeg).toInt ≤ 9 := hI.1 76 (v2).toNatClampNeg
      have kc27 : 0 ≤ (m.1 76 (v2).toNatClampNeg).toInt := zI.pf76 hI v2 (by omega) (by omega)
      have kx28 : 0 ≤ ((m4.1 76 (v2).toNatClampNeg)).toInt ∧ ((m4.1 76 (v2).toNatClampNeg)).toInt < (10 : Int) := by omega
      refine s_ix kx28 ?_
      refine s_ix kx17 ?_
      have kc29 : (-1 : Int) ≤ (m4.1 77 (v2).toNatClampNeg).toInt ∧ (m4.1 77 (v2).toNatClampNeg).toInt ≤ 9 := ki15.1 77 (v2).toNatClampNeg
      have kc30 : 0 ≤ (m4.1 77 (v2).toNatClampNeg).toInt := zI.pf77 ki15 v2 (by omega) (by omega)
      have kc31 : (m4.1 77 (v2).toNatClampNeg).toInt = (m.1 77 (v2).toNatClampNeg).toInt := congrArg Int32.toInt (kf16 77 (v2).toNatClampNeg rfl)
      have kc32 : (-1 : Int) ≤ (m.1 77 (v2).toNatClampNeg).toInt ∧ (m.1 77 (v2).toNatClampNeg).toInt ≤ 9 := hI.1 77 (v2).toNatClampNeg
      have kc33 : 0 ≤ (m.1 77 (v2).toNatClampNeg).toInt := zI.pf77 hI v2 (by omega) (by omega)
      have kx34 : 0 ≤ ((m4.1 77 (v2).toNatClampNeg)).toInt ∧ ((m4.1 77 (v2).toNatClampNeg)).toInt < (10 : Int) := by omega
      refine s_ix kx34 ?_
      have kc35 : 0 ≤ (m4.1 94 ((m4.1 76 (v2).toNatClampNeg)).toNatClampNeg).toInt ∧ (m4.1 94 ((m4.1 76 (v2).toNatClampNeg)).toNatClampNeg).toInt ≤ 9 := ki15.1 94 ((m4.1 76 (v2).toNatClampNeg)).toNatClampNeg
      have kc36 : 0 ≤ (m4.1 94 ((m4.1 77 (v2).toNatClampNeg)).toNatClampNeg).toInt ∧ (m4.1 94 ((m4.1 77 (v2).toNatClampNeg)).toNatClampNeg).toInt ≤ 9 := ki15.1 94 ((m4.1 77 (v2).toNatClampNeg)).toNatClampNeg
      refine s_eq (fun kh37 => ?_) (fun kh37 => ?_)
      · have kc38 := L0
        have kc39 : 0 ≤ (v1 ||| (0 : Int32)).toInt ∧ (v1 ||| (0 : Int32)).toInt < 16384 := a_or 14 (by decide) (by decide) (by omega) (by omega) (by omega) (by omega)
        have kc40 : (v2 + (1 : Int32)).toInt = (v2).toInt + 1 := a_addl L1 (by omega) (by omega)
        have kf41 : Fr wX12_bridges m0 m4 := Fr.trans hF kf16 rfl
        exact ih (v1 ||| (0 : Int32)) (v2 + (1 : Int32)) m4 (show 0 ≤ (v1 ||| (0 : Int32)).toInt ∧ (v1 ||| (0 : Int32)).toInt ≤ 16383 ∧ 0 ≤ (v2 + (1 : Int32)).toInt ∧ (v2 + (1 : Int32)).toInt ≤ 14 ∧ 14 - (v2 + (1 : Int32)).toInt < (n : Int) by omega) ki15 kf41
      · have kc42 : 0 ≤ (v1 ||| ((1 : Int32) <<< (v2 &&& (31 : Int32)))).toInt ∧ (v1 ||| ((1 : Int32) <<< (v2 &&& (31 : Int32)))).toInt < 16384 := a_or 14 (by decide) (by decide) (by omega) (by omega) (by omega) (by omega)
        have kc43 : (v2 + (1 : Int32)).toInt = (v2).toInt + 1 := a_addl L1 (by omega) (by omega)
        have kf44 : Fr wX12_bridges m0 m4 := Fr.trans hF kf16 rfl
        exact ih (v1 ||| ((1 : Int32) <<< (v2 &&& (31 : Int32)))) (v2 + (1 : Int32)) m4 (show 0 ≤ (v1 ||| ((1 : Int32) <<< (v2 &&& (31 : Int32)))).toInt ∧ (v1 ||| ((1 : Int32) <<< (v2 &&& (31 : Int32)))).toInt ≤ 16383 ∧ 0 ≤ (v2 + (1 : Int32)).toInt ∧ (v2 + (1 : Int32)).toInt ≤ 14 ∧ 14 - (v2 + (1 : Int32)).toInt < (n : Int) by omega) ki15 kf44
theorem zX12_bridges (m : sm_S) (hI : zI m) : Sf (fun r => ((0 ≤ r.1.toInt) ∧ (r.1.toInt ≤ 16383)) ∧ zI r.2 ∧ Fr wX12_bridges m r.2) (fX12_bridges m) := by
  have hfu := fuE
  unfold fX12_bridges
  have kc1 := L0
  have ki2 : zI (sm_w1 m 72 0 (0 : Int32)) := zI.w hI rfl (show 0 ≤ ((0 : Int32)).toInt ∧ ((0 : Int32)).toInt ≤ 1 by omega)
  have kf3 : Fr wX12_bridges m (sm_w1 m 72 0 (0 : Int32)) := Fr.w Fr.refl rfl
  exact zX12_bridges_9 m sm_fu (0 : Int32) (0 : Int32) (sm_w1 m 72 0 (0 : Int32)) (show 0 ≤ (0 : Int32).toInt ∧ (0 : Int32).toInt ≤ 16383 ∧ 0 ≤ (0 : Int32).toInt ∧ (0 : Int32).toInt ≤ 14 ∧ 14 - (0 : Int32).toInt < (sm_fu : Int) by omega) ki2 kf3
theorem zX12_reach_90 (m0 : sm_S) : ∀ (n : Nat) (v3 : Int32) (v4 : Int32) (m : sm_S), (0 ≤ v3.toInt ∧ v3.toInt ≤ 1023 ∧ 0 ≤ v4.toInt ∧ v4.toInt ≤ 10 ∧ 10 - v4.toInt < (n : Int)) → zI m → Fr wX12_reach m0 m → Sf (fun r => ((0 ≤ r.1.toInt) ∧ (r.1.toInt ≤ 1023)) ∧ zI r.2 ∧ Fr wX12_reach m0 r.2) (fX12_reach_90 n v3 v4 m) := by
  intro n
  induction n with
  | zero =>
    intro v3 v4 m hp hI hF
    exfalso
    omega
  | succ n ih =>
    intro v3 v4 m hp hI hF
    have hnn : ((n + 1 : Nat) : Int) = (n : Int) + 1 := by omega
    have hfu := fuE
    unfold fX12_reach_90
    have kc1 : 0 ≤ (m.1 72 3).toInt ∧ (m.1 72 3).toInt ≤ 10 := hI.1 72 3
    refine s_le (fun kh2 => ?_) (fun kh2 => ?_)
    · exact s_ret ⟨(show (0 ≤ v3.toInt) ∧ (v3.toInt ≤ 1023) by omega), hI, hF⟩
    · have kx3 : 0 ≤ (v4).toInt ∧ (v4).toInt < (10 : Int) := by omega
      refine s_ix kx3 ?_
      have kc4 : 0 ≤ (m.1 72 17).toInt ∧ (m.1 72 17).toInt ≤ 9 := hI.1 72 17
      have kx5 : 0 ≤ ((m.1 72 17)).toInt ∧ ((m.1 72 17)).toInt < (10 : Int) := by omega
      refine s_ix kx5 ?_
      have kc6 : 0 ≤ (m.1 94 (v4).toNatClampNeg).toInt ∧ (m.1 94 (v4).toNatClampNeg).toInt ≤ 9 := hI.1 94 (v4).toNatClampNeg
      have kc7 : 0 ≤ (m.1 94 ((m.1 72 17)).toNatClampNeg).toInt ∧ (m.1 94 ((m.1 72 17)).toNatClampNeg).toInt ≤ 9 := hI.1 94 ((m.1 72 17)).toNatClampNeg
      refine s_eq (fun kh8 => ?_) (fun kh8 => ?_)
      · have kc9 := L1
        have kc10 := L31
        have kc11 : 0 ≤ (v4 &&& (31 : Int32)).toInt ∧ (v4 &&& (31 : Int32)).toInt ≤ ((31 : Int32)).toInt := a_andr (by omega)
        have kc12 : 0 ≤ (v4 &&& (31 : Int32)).toInt ∧ (v4 &&& (31 : Int32)).toInt ≤ (v4).toInt := a_andl (by omega)
        have kc13 : 1 ≤ ((1 : Int32) <<< (v4 &&& (31 : Int32))).toInt ∧ ((1 : Int32) <<< (v4 &&& (31 : Int32))).toInt ≤ 512 := a_shl 9 (by decide) (by decide) (by omega) (by omega)
        have kc14 : 0 ≤ (v3 ||| ((1 : Int32) <<< (v4 &&& (31 : Int32)))).toInt ∧ (v3 ||| ((1 : Int32) <<< (v4 &&& (31 : Int32)))).toInt < 1024 := a_or 10 (by decide) (by decide) (by omega) (by omega) (by omega) (by omega)
        have kc15 : (v4 + (1 : Int32)).toInt = (v4).toInt + 1 := a_addl L1 (by omega) (by omega)
        exact ih (v3 ||| ((1 : Int32) <<< (v4 &&& (31 : Int32)))) (v4 + (1 : Int32)) m (show 0 ≤ (v3 ||| ((1 : Int32) <<< (v4 &&& (31 : Int32)))).toInt ∧ (v3 ||| ((1 : Int32) <<< (v4 &&& (31 : Int32)))).toInt ≤ 1023 ∧ 0 ≤ (v4 + (1 : Int32)).toInt ∧ (v4 + (1 : Int32)).toInt ≤ 10 ∧ 10 - (v4 + (1 : Int32)).toInt < (n : Int) by omega) hI hF
      · have kc16 := L0
        have kc17 : 0 ≤ (v3 ||| (0 : Int32)).toInt ∧ (v3 ||| (0 : Int32)).toInt < 1024 := a_or 10 (by decide) (by decide) (by omega) (by omega) (by omega) (by omega)
        have kc18 : (v4 + (1 : Int32)).toInt = (v4).toInt + 1 := a_addl L1 (by omega) (by omega)
        exact ih (v3 ||| (0 : Int32)) (v4 + (1 : Int32)) m (show 0 ≤ (v3 ||| (0 : Int32)).toInt ∧ (v3 ||| (0 : Int32)).toInt ≤ 1023 ∧ 0 ≤ (v4 + (1 : Int32)).toInt ∧ (v4 + (1 : Int32)).toInt ≤ 10 ∧ 10 - (v4 + (1 : Int32)).toInt < (n : Int) by omega) hI hF
theorem zX12_reach_39 (m0 : sm_S) : ∀ (n : Nat) (v1 : Int32) (v2 : Int32) (v3 : Int32) (m : sm_S), ((-1 : Int) ≤ v1.toInt ∧ v1.toInt ≤ 13 ∧ 0 ≤ v2.toInt ∧ v2.toInt ≤ 16383 ∧ 0 ≤ v3.toInt ∧ v3.toInt ≤ 14 ∧ 14 - v3.toInt < (n : Int)) → zI m → Fr wX12_reach m0 m → Sf (fun r => ((0 ≤ r.1.toInt) ∧ (r.1.toInt ≤ 1023)) ∧ zI r.2 ∧ Fr wX12_reach m0 r.2) (fX12_reach_39 n v1 v2 v3 m) := by
  intro n
  induction n with
  | zero =>
    intro v1 v2 v3 m hp hI hF
    exfalso
    omega
  | succ n ih =>
    intro v1 v2 v3 m hp hI hF
    have hnn : ((n + 1 : Nat) : Int) = (n : Int) + 1 := by omega
    have hfu := fuE
    unfold fX12_reach_39
    have kc1 : 0 ≤ (m.1 72 6).toInt ∧ (m.1 72 6).toInt ≤ 14 := hI.1 72 6
    have kc2 : 0 ≤ (m.1 72 25).toInt ∧ (m.1 72 25).toInt ≤ 14 := hI.1 72 25
    have kc3 := zI.le hI
    refine s_le (fun kh4 => ?_) (fun kh4 => ?_)
    · refine s_bd (zX12_parts v2 m (show 0 ≤ v2.toInt ∧ v2.toInt ≤ 16383 by omega) hI) (fun m6 kr5 => ?_)
      obtain ⟨kp6, ki7, kf8⟩ := kr5
      have kc9 := L0
      have kf10 : Fr wX12_reach m0 m6 := Fr.trans hF kf8 rfl
      exact zX12_reach_90 m0 sm_fu (0 : Int32) (0 : Int32) m6 (show 0 ≤ (0 : Int32).toInt ∧ (0 : Int32).toInt ≤ 1023 ∧ 0 ≤ (0 : Int32).toInt ∧ (0 : Int32).toInt ≤ 10 ∧ 10 - (0 : Int32).toInt < (sm_fu : Int) by omega) ki7 kf10
    · refine s_eq (fun kh11 => ?_) (fun kh11 => ?_)
      · have kc12 := L0
        have kc13 : 0 ≤ (v2 ||| (0 : Int32)).toInt ∧ (v2 ||| (0 : Int32)).toInt < 16384 := a_or 14 (by decide) (by decide) (by omega) (by omega) (by omega) (by omega)
        have kc14 : (v3 + (1 : Int32)).toInt = (v3).toInt + 1 := a_addl L1 (by omega) (by omega)
        exact ih v1 (v2 ||| (0 : Int32)) (v3 + (1 : Int32)) m (show (-1 : Int) ≤ v1.toInt ∧ v1.toInt ≤ 13 ∧ 0 ≤ (v2 ||| (0 : Int32)).toInt ∧ (v2 ||| (0 : Int32)).toInt ≤ 16383 ∧ 0 ≤ (v3 + (1 : Int32)).toInt ∧ (v3 + (1 : Int32)).toInt ≤ 14 ∧ 14 - (v3 + (1 : Int32)).toInt < (n : Int) by omega) hI hF
      · have kc15 : 0 ≤ (m.1 72 18).toInt ∧ (m.1 72 18).toInt ≤ 9999 := hI.1 72 18
        refine s_bd (zX12_isFresh v3 (m.1 72 18) m (show 0 ≤ v3.toInt ∧ v3.toInt ≤ 13 ∧ 0 ≤ (m.1 72 18).toInt ∧ (m.1 72 18).toInt ≤ 9999 ∧ v3.toInt < (m.1 72 6).toInt by omega) hI) (fun r10 kr16 => ?_)
        replace kr16 : (0 ≤ r10.toInt) ∧ (r10.toInt ≤ 1) := kr16
        have kc17 := L0
        refine s_eq (fun kh18 => ?_) (fun kh18 => ?_)
        · have kc19 : 0 ≤ (v2 ||| (0 : Int32)).toInt ∧ (v2 ||| (0 : Int32)).toInt < 16384 := a_or 14 (by decide) (by decide) (by omega) (by omega) (by omega) (by omega)
          have kc20 : (v3 + (1 : Int32)).toInt = (v3).toInt + 1 := a_addl L1 (by omega) (by omega)
          exact ih v1 (v2 ||| (0 : Int32)) (v3 + (1 : Int32)) m (show (-1 : Int) ≤ v1.toInt ∧ v1.toInt ≤ 13 ∧ 0 ≤ (v2 ||| (0 : Int32)).toInt ∧ (v2 ||| (0 : Int32)).toInt ≤ 16383 ∧ 0 ≤ (v3 + (1 : Int32)).toInt ∧ (v3 + (1 : Int32)).toInt ≤ 14 ∧ 14 - (v3 + (1 : Int32)).toInt < (n : Int) by omega) hI hF
        · have kc21 := L1
          have kc22 := L31
          have kc23 : 0 ≤ (v3 &&& (31 : Int32)).toInt ∧ (v3 &&& (31 : Int32)).toInt ≤ ((31 : Int32)).toInt := a_andr (by omega)
          have kc24 : 0 ≤ (v3 &&& (31 : Int32)).toInt ∧ (v3 &&& (31 : Int32)).toInt ≤ (v3).toInt := a_andl (by omega)
          have kc25 : 1 ≤ ((1 : Int32) <<< (v3 &&& (31 : Int32))).toInt ∧ ((1 : Int32) <<< (v3 &&& (31 : Int32))).toInt ≤ 8192 := a_shl 13 (by decide) (by decide) (by omega) (by omega)
          have kc26 : 0 ≤ (v2 ||| ((1 : Int32) <<< (v3 &&& (31 : Int32)))).toInt ∧ (v2 ||| ((1 : Int32) <<< (v3 &&& (31 : Int32)))).toInt < 16384 := a_or 14 (by decide) (by decide) (by omega) (by omega) (by omega) (by omega)
          have kc27 : (v3 + (1 : Int32)).toInt = (v3).toInt + 1 := a_addl L1 (by omega) (by omega)
          exact ih v1 (v2 ||| ((1 : Int32) <<< (v3 &&& (31 : Int32)))) (v3 + (1 : Int32)) m (show (-1 : Int) ≤ v1.toInt ∧ v1.toInt ≤ 13 ∧ 0 ≤ (v2 ||| ((1 : Int32) <<< (v3 &&& (31 : Int32)))).toInt ∧ (v2 ||| ((1 : Int32) <<< (v3 &&& (31 : Int32)))).toInt ≤ 16383 ∧ 0 ≤ (v3 + (1 : Int32)).toInt ∧ (v3 + (1 : Int32)).toInt ≤ 14 ∧ 14 - (v3 + (1 : Int32)).toInt < (n : Int) by omega) hI hF
