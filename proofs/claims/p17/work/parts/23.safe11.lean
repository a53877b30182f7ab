theorem zX12_readsCorner (m : sm_S) (hI : zI m) : Sf (fun r => ((0 ≤ r.1.toInt) ∧ (r.1.toInt ≤ 1) ∧ ((m.1 72 22).toInt ≤ (r.2.1 72 22).toInt)) ∧ zI r.2 ∧ Fr wX12_readsCorner m r.2) (fX12_readsCorner m) := by
  have hfu := fuE
  unfold fX12_readsCorner
  have kc1 : 0 ≤ (m.1 72 24).toInt ∧ (m.1 72 24).toInt ≤ 10 := hI.1 72 24
  have kc2 := L10
  refine s_eq (fun kh3 => ?_) (fun kh3 => ?_)
  · have kc4 := L0
    have kc5 : 0 ≤ (m.1 72 22).toInt ∧ (m.1 72 22).toInt ≤ 80 := hI.1 72 22
    exact s_ret ⟨(show (0 ≤ (0 : Int32).toInt) ∧ ((0 : Int32).toInt ≤ 1) ∧ ((m.1 72 22).toInt ≤ (m.1 72 22).toInt) by omega), hI, Fr.refl⟩
  · have kc6 := L64
    refine s_bd (zX12_takes (64 : Int32) m (show 58 ≤ (64 : Int32).toInt ∧ (64 : Int32).toInt ≤ 126 by omega) hI) (fun r2 kr7 => ?_)
    obtain ⟨kp8, ki9, kf10⟩ := kr7
    replace kp8 : (0 ≤ r2.1.toInt) ∧ (r2.1.toInt ≤ 1) ∧ ((r2.2.1 72 22).toInt = (m.1 72 22).toInt + r2.1.toInt) := kp8
    have kc11 : 0 ≤ (r2.2.1 72 22).toInt ∧ (r2.2.1 72 22).toInt ≤ 80 := ki9.1 72 22
    have kc12 : 0 ≤ (m.1 72 22).toInt ∧ (m.1 72 22).toInt ≤ 80 := hI.1 72 22
    have kc13 := L0
    refine s_eq (fun kh14 => ?_) (fun kh14 => ?_)
    · have kf15 : Fr wX12_readsCorner m r2.2 := Fr.trans Fr.refl kf10 rfl
      exact s_ret ⟨(show (0 ≤ (0 : Int32).toInt) ∧ ((0 : Int32).toInt ≤ 1) ∧ ((m.1 72 22).toInt ≤ (r2.2.1 72 22).toInt) by omega), ki9, kf15⟩
    · have kc16 := L9
      refine s_bd (zX12_digit_w (9 : Int32) r2.2 (show 5 ≤ (9 : Int32).toInt ∧ (9 : Int32).toInt ≤ 9 by omega) ki9) (fun r4 kr17 => ?_)
      obtain ⟨kp18, ki19, kf20⟩ := kr17
      replace kp18 : ((-1 : Int) ≤ r4.1.toInt) ∧ (r4.1.toInt ≤ 9) ∧ ((r2.2.1 72 22).toInt ≤ (r4.2.1 72 22).toInt) := kp18
      have kc21 : 0 ≤ (r4.2.1 72 22).toInt ∧ (r4.2.1 72 22).toInt ≤ 80 := ki19.1 72 22
      refine s_le (fun kh22 => ?_) (fun kh22 => ?_)
      · refine s_bd (zX12_digit_w (9 : Int32) r4.2 (show 5 ≤ (9 : Int32).toInt ∧ (9 : Int32).toInt ≤ 9 by omega) ki19) (fun r6 kr23 => ?_)
        obtain ⟨kp24, ki25, kf26⟩ := kr23
        replace kp24 : ((-1 : Int) ≤ r6.1.toInt) ∧ (r6.1.toInt ≤ 9) ∧ ((r4.2.1 72 22).toInt ≤ (r6.2.1 72 22).toInt) := kp24
        have kc27 : 0 ≤ (r6.2.1 72 22).toInt ∧ (r6.2.1 72 22).toInt ≤ 80 := ki25.1 72 22
        refine s_le (fun kh28 => ?_) (fun kh28 => ?_)
        · have kc29 : 0 ≤ (r6.2.1 72 24).toInt ∧ (r6.2.1 72 24).toInt ≤ 10 := ki25.1 72 24
          have kc30 : (r6.2.1 72 24).toInt = (r4.2.1 72 24).toInt := congrArg Int32.toInt (kf26 72 24 rfl)
          have kc31 : 0 ≤ (r4.2.1 72 24).toInt ∧ (r4.2.1 72 24).toInt ≤ 10 := ki19.1 72 24
          have kc32 : (r4.2.1 72 24).toInt = (r2.2.1 72 24).toInt := congrArg Int32.toInt (kf20 72 24 rfl)
          have kc33 : 0 ≤ (r2.2.1 72 24).toInt ∧ (r2.2.1 72 24).toInt ≤ 10 := ki9.1 72 24
          have kc34 : (r2.2.1 72 24).toInt = (m.1 72 24).toInt := congrArg Int32.toInt (kf10 72 24 rfl)
          have kx35 : 0 ≤ ((r6.2.1 72 24)).toInt ∧ ((r6.2.1 72 24)).toInt < (10 : Int) := by omega
          refine s_ix kx35 ?_
          refine s_ix kx35 ?_
          have kc36 := L1
          have ki37 : zI (sm_w1 r6.2 74 ((r6.2.1 72 24)).toNatClampNeg r4.1) := zI.w ki25 rfl (show 0 ≤ (r4.1).toInt ∧ (r4.1).toInt ≤ 9 by omega)
          have ki38 : zI (sm_w1 (sm_w1 r6.2 74 ((r6.2.1 72 24)).toNatClampNeg r4.1) 75 ((r6.2.1 72 24)).toNatClampNeg r6.1) := zI.w ki37 rfl (show 0 ≤ (r6.1).toInt ∧ (r6.1).toInt ≤ 9 by omega)
          have kc39 : ((r6.2.1 72 24) + (1 : Int32)).toInt = ((r6.2.1 72 24)).toInt + 1 := a_addl L1 (by omega) (by omega)
          have ki40 : zI (sm_w1 (sm_w1 (sm_w1 r6.2 74 ((r6.2.1 72 24)).toNatClampNeg r4.1) 75 ((r6.2.1 72 24)).toNatClampNeg r6.1) 72 24 ((r6.2.1 72 24) + (1 : Int32))) := zI.w ki38 rfl (show 0 ≤ (((r6.2.1 72 24) + (1 : Int32))).toInt ∧ (((r6.2.1 72 24) + (1 : Int32))).toInt ≤ 10 by omega)
          have kc41 : 0 ≤ ((sm_w1 (sm_w1 (sm_w1 r6.2 74 ((r6.2.1 72 24)).toNatClampNeg r4.1) 75 ((r6.2.1 72 24)).toNatClampNeg r6.1) 72 24 ((r6.2.1 72 24) + (1 : Int32))).1 72 22).toInt ∧ ((sm_w1 (sm_w1 (sm_w1 r6.2 74 ((r6.2.1 72 24)).toNatClampNeg r4.1) 75 ((r6.2.1 72 24)).toNatClampNeg r6.1) 72 24 ((r6.2.1 72 24) + (1 : Int32))).1 72 22).toInt ≤ 80 := ki40.1 72 22
          have kc42 : ((sm_w1 (sm_w1 (sm_w1 r6.2 74 ((r6.2.1 72 24)).toNatClampNeg r4.1) 75 ((r6.2.1 72 24)).toNatClampNeg r6.1) 72 24 ((r6.2.1 72 24) + (1 : Int32))).1 72 22).toInt = ((sm_w1 (sm_w1 r6.2 74 ((r6.2.1 72 24)).toNatClampNeg r4.1) 75 ((r6.2.1 72 24)).toNatClampNeg r6.1).1 72 22).toInt := rfl
          have kc43 : 0 ≤ ((sm_w1 (sm_w1 r6.2 74 ((r6.2.1 72 24)).toNatClampNeg r4.1) 75 ((r6.2.1 72 24)).toNatClampNeg r6.1).1 72 22).toInt ∧ ((sm_w1 (sm_w1 r6.2 74 ((r6.2.1 72 24)).toNatClampNeg r4.1) 75 ((r6.2.1 72 24)).toNatClampNeg r6.1).1 72 22).toInt ≤ 80 := ki38.1 72 22
          have kc44 : ((sm_w1 (sm_w1 r6.2 74 ((r6.2.1 72 24)).toNatClampNeg r4.1) 75 ((r6.2.1 72 24)).toNatClampNeg r6.1).1 72 22).toInt = ((sm_w1 r6.2 74 ((r6.2.1 72 24)).toNatClampNeg r4.1).1 72 22).toInt := congrArg Int32.toInt (r_cell (by decide))
          have kc45 : 0 ≤ ((sm_w1 r6.2 74 ((r6.2.1 72 24)).toNatClampNeg r4.1).1 72 22).toInt ∧ ((sm_w1 r6.2 74 ((r6.2.1 72 24)).toNatClampNeg r4.1).1 72 22).toInt ≤ 80 := ki37.1 72 22
          have kc46 : ((sm_w1 r6.2 74 ((r6.2.1 72 24)).toNatClampNeg r4.1).1 72 22).toInt = (r6.2.1 72 22).toInt := congrArg Int32.toInt (r_cell (by decide))
          have kf47 : Fr wX12_readsCorner m r2.2 := Fr.trans Fr.refl kf10 rfl
          have kf48 : Fr wX12_readsCorner m r4.2 := Fr.trans kf47 kf20 rfl
          have kf49 : Fr wX12_readsCorner m r6.2 := Fr.trans kf48 kf26 rfl
          have kf50 : Fr wX12_readsCorner m (sm_w1 r6.2 74 ((r6.2.1 72 24)).toNatClampNeg r4.1) := Fr.w kf49 rfl
          have kf51 : Fr wX12_readsCorner m (sm_w1 (sm_w1 r6.2 74 ((r6.2.1 72 24)).toNatClampNeg r4.1) 75 ((r6.2.1 72 24)).toNatClampNeg r6.1) := Fr.w kf50 rfl
          have kf52 : Fr wX12_readsCorner m (sm_w1 (sm_w1 (sm_w1 r6.2 74 ((r6.2.1 72 24)).toNatClampNeg r4.1) 75 ((r6.2.1 72 24)).toNatClampNeg r6.1) 72 24 ((r6.2.1 72 24) + (1 : Int32))) := Fr.w kf51 rfl
          exact s_ret ⟨(show (0 ≤ (1 : Int32).toInt) ∧ ((1 : Int32).toInt ≤ 1) ∧ ((m.1 72 22).toInt ≤ ((sm_w1 (sm_w1 (sm_w1 r6.2 74 ((r6.2.1 72 24)).toNatClampNeg r4.1) 75 ((r6.2.1 72 24)).toNatClampNeg r6.1) 72 24 ((r6.2.1 72 24) + (1 : Int32))).1 72 22).toInt) by omega), ki40, kf52⟩
        · have kf53 : Fr wX12_readsCorner m r2.2 := Fr.trans Fr.refl kf10 rfl
          have kf54 : Fr wX12_readsCorner m r4.2 := Fr.trans kf53 kf20 rfl
          have kf55 : Fr wX12_readsCorner m r6.2 := Fr.trans kf54 kf26 rfl
          exact s_ret ⟨(show (0 ≤ (0 : Int32).toInt) ∧ ((0 : Int32).toInt ≤ 1) ∧ ((m.1 72 22).toInt ≤ (r6.2.1 72 22).toInt) by omega), ki25, kf55⟩
      · have kf56 : Fr wX12_readsCorner m r2.2 := Fr.trans Fr.refl kf10 rfl
        have kf57 : Fr wX12_readsCorner m r4.2 := Fr.trans kf56 kf20 rfl
        exact s_ret ⟨(show (0 ≤ (0 : Int32).toInt) ∧ ((0 : Int32).toInt ≤ 1) ∧ ((m.1 72 22).toInt ≤ (r4.2.1 72 22).toInt) by omega), ki19, kf57⟩
theorem zX12_land_48 (m0 : sm_S) : ∀ (n : Nat) (v1 : Int32) (v2 : Int32) (v3 : Int32) (v4 : Int32) (m : sm_S), (0 ≤ v1.toInt ∧ v1.toInt ≤ 80 ∧ 0 ≤ v3.toInt ∧ v3.toInt ≤ 1 ∧ 0 ≤ v4.toInt ∧ v4.toInt ≤ 1 ∧ 2 * (81 - (m.1 72 22).toInt) + v4.toInt < (n : Int) ∧ (m.1 72 21).toInt = 0) → zI m → Fr wX12_land m0 m → Sf (fun r => (((r.2.1 72 21).toInt = 0)) ∧ zI r.2 ∧ Fr wX12_land m0 r.2) (fX12_land_48 n v1 v2 v3 v4 m) := by
  intro n
  induction n with
  | zero =>
    intro v1 v2 v3 v4 m hp hI hF
    have kc1 : 0 ≤ (m.1 72 22).toInt ∧ (m.1 72 22).toInt ≤ 80 := hI.1 72 22
    have kc2 : 0 ≤ (m.1 72 21).toInt ∧ (m.1 72 21).toInt ≤ 80 := hI.1 72 21
    exfalso
    omega
  | succ n ih =>
    intro v1 v2 v3 v4 m hp hI hF
    have hnn : ((n + 1 : Nat) : Int) = (n : Int) + 1 := by omega
    have hfu := fuE
    have kc1 : 0 ≤ (m.1 72 22).toInt ∧ (m.1 72 22).toInt ≤ 80 := hI.1 72 22
    have kc2 : 0 ≤ (m.1 72 21).toInt ∧ (m.1 72 21).toInt ≤ 80 := hI.1 72 21
    unfold fX12_land_48
    have kc3 := L0
    refine s_eq (fun kh4 => ?_) (fun kh4 => ?_)
    · have kc5 := L76
      refine s_bd (zX12_faultOf v1 (76 : Int32) v3 m (show 0 ≤ v1.toInt ∧ v1.toInt ≤ 80 ∧ 30 ≤ (76 : Int32).toInt ∧ (76 : Int32).toInt ≤ 76 ∧ 0 ≤ v3.toInt ∧ v3.toInt ≤ 1 by omega) hI) (fun r4 kr6 => ?_)
      replace kr6 : ((-81 : Int) ≤ r4.toInt) ∧ (r4.toInt ≤ 0) := kr6
      refine s_le (fun kh7 => ?_) (fun kh7 => ?_)
      · refine s_le (fun kh8 => ?_) (fun kh8 => ?_)
        · have kc9 : 0 ≤ (m.1 72 24).toInt ∧ (m.1 72 24).toInt ≤ 10 := hI.1 72 24
          have ki10 : zI (sm_w1 m 72 3 (m.1 72 24)) := zI.w hI rfl (show 0 ≤ ((m.1 72 24)).toInt ∧ ((m.1 72 24)).toInt ≤ 10 by omega)
          have kc11 : 0 ≤ (m.1 72 25).toInt ∧ (m.1 72 25).toInt ≤ 14 := hI.1 72 25
          have kc12 : 0 ≤ (m.1 72 6).toInt ∧ (m.1 72 6).toInt ≤ 14 := hI.1 72 6
          have kc13 := zI.le hI
          have kc15 : 0 ≤ ((sm_w1 m 72 3 (m.1 72 24)).1 72 6).toInt ∧ ((sm_w1 m 72 3 (m.1 72 24)).1 72 6).toInt ≤ 14 := ki10.1 72 6
          have kc16 : 0 ≤ ((sm_w1 m 72 3 (m.1 72 24)).1 72 25).toInt ∧ ((sm_w1 m 72 3 (m.1 72 24)).1 72 25).toInt ≤ 14 := ki10.1 72 25
          have kc17 := zI.le ki10
          have kc18 : ((sm_w1 m 72 3 (m.1 72 24)).1 72 25).toInt = (m.1 72 25).toInt := rfl
          have kc19 : ((sm_w1 m 72 3 (m.1 72 24)).1 72 6).toInt = (m.1 72 6).toInt := rfl
          have ki14 : zI (sm_w1 (sm_w1 m 72 3 (m.1 72 24)) 72 6 (m.1 72 25)) := zI.w6 ki10 (show 0 ≤ ((m.1 72 25)).toInt ∧ ((m.1 72 25)).toInt ≤ 14 by omega) (show ((sm_w1 m 72 3 (m.1 72 24)).1 72 6).toInt ≤ ((m.1 72 25)).toInt ∧ ((m.1 72 25)).toInt ≤ ((sm_w1 m 72 3 (m.1 72 24)).1 72 25).toInt by omega)
          have kc20 : 0 ≤ (m.1 72 14).toInt ∧ (m.1 72 14).toInt ≤ 16383 := hI.1 72 14
          have kc21 : 0 ≤ (m.1 72 26).toInt ∧ (m.1 72 26).toInt ≤ 16383 := hI.1 72 26
          have kc22 : 0 ≤ ((m.1 72 14) ||| (m.1 72 26)).toInt ∧ ((m.1 72 14) ||| (m.1 72 26)).toInt < 16384 := a_or 14 (by decide) (by decide) (by omega) (by omega) (by omega) (by omega)
          have ki23 : zI (sm_w1 (sm_w1 (sm_w1 m 72 3 (m.1 72 24)) 72 6 (m.1 72 25)) 72 14 ((m.1 72 14) ||| (m.1 72 26))) := zI.w ki14 rfl (show 0 ≤ (((m.1 72 14) ||| (m.1 72 26))).toInt ∧ (((m.1 72 14) ||| (m.1 72 26))).toInt ≤ 16383 by omega)
          have kc24 : 0 ≤ (m.1 72 27).toInt ∧ (m.1 72 27).toInt ≤ 30 := hI.1 72 27
          have ki25 : zI (sm_w1 (sm_w1 (sm_w1 (sm_w1 m 72 3 (m.1 72 24)) 72 6 (m.1 72 25)) 72 14 ((m.1 72 14) ||| (m.1 72 26))) 72 27 (m.1 72 27)) := zI.w ki23 rfl (show 0 ≤ ((m.1 72 27)).toInt ∧ ((m.1 72 27)).toInt ≤ 30 by omega)
          have kc26 : 0 ≤ ((sm_w1 (sm_w1 (sm_w1 (sm_w1 m 72 3 (m.1 72 24)) 72 6 (m.1 72 25)) 72 14 ((m.1 72 14) ||| (m.1 72 26))) 72 27 (m.1 72 27)).1 72 21).toInt ∧ ((sm_w1 (sm_w1 (sm_w1 (sm_w1 m 72 3 (m.1 72 24)) 72 6 (m.1 72 25)) 72 14 ((m.1 72 14) ||| (m.1 72 26))) 72 27 (m.1 72 27)).1 72 21).toInt ≤ 80 := ki25.1 72 21
          have kc27 : ((sm_w1 (sm_w1 (sm_w1 (sm_w1 m 72 3 (m.1 72 24)) 72 6 (m.1 72 25)) 72 14 ((m.1 72 14) ||| (m.1 72 26))) 72 27 (m.1 72 27)).1 72 21).toInt = ((sm_w1 (sm_w1 (sm_w1 m 72 3 (m.1 72 24)) 72 6 (m.1 72 25)) 72 14 ((m.1 72 14) ||| (m.1 72 26))).1 72 21).toInt := rfl
          have kc28 : 0 ≤ ((sm_w1 (sm_w1 (sm_w1 m 72 3 (m.1 72 24)) 72 6 (m.1 72 25)) 72 14 ((m.1 72 14) ||| (m.1 72 26))).1 72 21).toInt ∧ ((sm_w1 (sm_w1 (sm_w1 m 72 3 (m.1 72 24)) 72 6 (m.1 72 25)) 72 14 ((m.1 72 14) ||| (m.1 72 26))).1 72 21).toInt ≤ 80 := ki23.1 72 21
          have kc29 : ((sm_w1 (sm_w1 (sm_w1 m 72 3 (m.1 72 24)) 72 6 (m.1 72 25)) 72 14 ((m.1 72 14) ||| (m.1 72 26))).1 72 21).toInt = ((sm_w1 (sm_w1 m 72 3 (m.1 72 24)) 72 6 (m.1 72 25)).1 72 21).toInt := rfl
          have kc30 : 0 ≤ ((sm_w1 (sm_w1 m 72 3 (m.1 72 24)) 72 6 (m.1 72 25)).1 72 21).toInt ∧ ((sm_w1 (sm_w1 m 72 3 (m.1 72 24)) 72 6 (m.1 72 25)).1 72 21).toInt ≤ 80 := ki14.1 72 21
          have kc31 : ((sm_w1 (sm_w1 m 72 3 (m.1 72 24)) 72 6 (m.1 72 25)).1 72 21).toInt = ((sm_w1 m 72 3 (m.1 72 24)).1 72 21).toInt := rfl
          have kc32 : 0 ≤ ((sm_w1 m 72 3 (m.1 72 24)).1 72 21).toInt ∧ ((sm_w1 m 72 3 (m.1 72 24)).1 72 21).toInt ≤ 80 := ki10.1 72 21
          have kc33 : ((sm_w1 m 72 3 (m.1 72 24)).1 72 21).toInt = (m.1 72 21).toInt := rfl
          have kf34 : Fr wX12_land m0 (sm_w1 m 72 3 (m.1 72 24)) := Fr.w hF rfl
          have kf35 : Fr wX12_land m0 (sm_w1 (sm_w1 m 72 3 (m.1 72 24)) 72 6 (m.1 72 25)) := Fr.w kf34 rfl
          have kf36 : Fr wX12_land m0 (sm_w1 (sm_w1 (sm_w1 m 72 3 (m.1 72 24)) 72 6 (m.1 72 25)) 72 14 ((m.1 72 14) ||| (m.1 72 26))) := Fr.w kf35 rfl
          have kf37 : Fr wX12_land m0 (sm_w1 (sm_w1 (sm_w1 (sm_w1 m 72 3 (m.1 72 24)) 72 6 (m.1 72 25)) 72 14 ((m.1 72 14) ||| (m.1 72 26))) 72 27 (m.1 72 27)) := Fr.w kf36 rfl
          exact s_ret ⟨(show (((sm_w1 (sm_w1 (sm_w1 (sm_w1 m 72 3 (m.1 72 24)) 72 6 (m.1 72 25)) 72 14 ((m.1 72 14) ||| (m.1 72 26))) 72 27 (m.1 72 27)).1 72 21).toInt = 0) by omega), ki25, kf37⟩
        · have kc38 : 0 ≤ (m.1 72 24).toInt ∧ (m.1 72 24).toInt ≤ 10 := hI.1 72 24
          have ki39 : zI (sm_w1 m 72 3 (m.1 72 24)) := zI.w hI rfl (show 0 ≤ ((m.1 72 24)).toInt ∧ ((m.1 72 24)).toInt ≤ 10 by omega)
          have kc40 : 0 ≤ (m.1 72 25).toInt ∧ (m.1 72 25).toInt ≤ 14 := hI.1 72 25
          have kc41 : 0 ≤ (m.1 72 6).toInt ∧ (m.1 72 6).toInt ≤ 14 := hI.1 72 6
          have kc42 := zI.le hI
          have kc44 : 0 ≤ ((sm_w1 m 72 3 (m.1 72 24)).1 72 6).toInt ∧ ((sm_w1 m 72 3 (m.1 72 24)).1 72 6).toInt ≤ 14 := ki39.1 72 6
          have kc45 : 0 ≤ ((sm_w1 m 72 3 (m.1 72 24)).1 72 25).toInt ∧ ((sm_w1 m 72 3 (m.1 72 24)).1 72 25).toInt ≤ 14 := ki39.1 72 25
          have kc46 := zI.le ki39
          have kc47 : ((sm_w1 m 72 3 (m.1 72 24)).1 72 25).toInt = (m.1 72 25).toInt := rfl
          have kc48 : ((sm_w1 m 72 3 (m.1 72 24)).1 72 6).toInt = (m.1 72 6).toInt := rfl
          have ki43 : zI (sm_w1 (sm_w1 m 72 3 (m.1 72 24)) 72 6 (m.1 72 25)) := zI.w6 ki39 (show 0 ≤ ((m.1 72 25)).toInt ∧ ((m.1 72 25)).toInt ≤ 14 by omega) (show ((sm_w1 m 72 3 (m.1 72 24)).1 72 6).toInt ≤ ((m.1 72 25)).toInt ∧ ((m.1 72 25)).toInt ≤ ((sm_w1 m 72 3 (m.1 72 24)).1 72 25).toInt by omega)
          have kc49 : 0 ≤ (m.1 72 14).toInt ∧ (m.1 72 14).toInt ≤ 16383 := hI.1 72 14
          have kc50 : 0 ≤ (m.1 72 26).toInt ∧ (m.1 72 26).toInt ≤ 16383 := hI.1 72 26
          have kc51 : 0 ≤ ((m.1 72 14) ||| (m.1 72 26)).toInt ∧ ((m.1 72 14) ||| (m.1 72 26)).toInt < 16384 := a_or 14 (by decide) (by decide) (by omega) (by omega) (by omega) (by omega)
          have ki52 : zI (sm_w1 (sm_w1 (sm_w1 m 72 3 (m.1 72 24)) 72 6 (m.1 72 25)) 72 14 ((m.1 72 14) ||| (m.1 72 26))) := zI.w ki43 rfl (show 0 ≤ (((m.1 72 14) ||| (m.1 72 26))).toInt ∧ (((m.1 72 14) ||| (m.1 72 26))).toInt ≤ 16383 by omega)
          have ki53 : zI (sm_w1 (sm_w1 (sm_w1 (sm_w1 m 72 3 (m.1 72 24)) 72 6 (m.1 72 25)) 72 14 ((m.1 72 14) ||| (m.1 72 26))) 72 27 (0 : Int32)) := zI.w ki52 rfl (show 0 ≤ ((0 : Int32)).toInt ∧ ((0 : Int32)).toInt ≤ 30 by omega)
          have kc54 : 0 ≤ ((sm_w1 (sm_w1 (sm_w1 (sm_w1 m 72 3 (m.1 72 24)) 72 6 (m.1 72 25)) 72 14 ((m.1 72 14) ||| (m.1 72 26))) 72 27 (0 : Int32)).1 72 21).toInt ∧ ((sm_w1 (sm_w1 (sm_w1 (sm_w1 m 72 3 (m.1 72 24)) 72 6 (m.1 72 25)) 72 14 ((m.1 72 14) ||| (m.1 72 26))) 72 27 (0 : Int32)).1 72 21).toInt ≤ 80 := ki53.1 72 21
          have kc55 : ((sm_w1 (sm_w1 (sm_w1 (sm_w1 m 72 3 (m.1 72 24)) 72 6 (m.1 72 25)) 72 14 ((m.1 72 14) ||| (m.1 72 26))) 72 27 (0 : Int32)).1 72 21).toInt = ((sm_w1 (sm_w1 (sm_w1 m 72 3 (m.1 72 24)) 72 6 (m.1 72 25)) 72 14 ((m.1 72 14) ||| (m.1 72 26))).1 72 21).toInt := rfl
          have kc56 : 0 ≤ ((sm_w1 (sm_w1 (sm_w1 m 72 3 (m.1 72 24)) 72 6 (m.1 72 25)) 72 14 ((m.1 72 14) ||| (m.1 72 26))).1 72 21).toInt ∧ ((sm_w1 (sm_w1 (sm_w1 m 72 3 (m.1 72 24)) 72 6 (m.1 72 25)) 72 14 ((m.1 72 14) ||| (m.1 72 26))).1 72 21).toInt ≤ 80 := ki52.1 72 21
          have kc57 : ((sm_w1 (sm_w1 (sm_w1 m 72 3 (m.1 72 24)) 72 6 (m.1 72 25)) 72 14 ((m.1 72 14) ||| (m.1 72 26))).1 72 21).toInt = ((sm_w1 (sm_w1 m 72 3 (m.1 72 24)) 72 6 (m.1 72 25)).1 72 21).toInt := rfl
          have kc58 : 0 ≤ ((sm_w1 (sm_w1 m 72 3 (m.1 72 24)) 72 6 (m.1 72 25)).1 72 21).toInt ∧ ((sm_w1 (sm_w1 m 72 3 (m.1 72 24)) 72 6 (m.1 72 25)).1 72 21).toInt ≤ 80 := ki43.1 72 21
          have kc59 : ((sm_w1 (sm_w1 m 72 3 (m.1 72 24)) 72 6 (m.1 72 25)).1 72 21).toInt = ((sm_w1 m 72 3 (m.1 72 24)).1 72 21).toInt := rfl
          have kc60 : 0 ≤ ((sm_w1 m 72 3 (m.1 72 24)).1 72 21).toInt ∧ ((sm_w1 m 72 3 (m.1 72 24)).1 72 21).toInt ≤ 80 := ki39.1 72 21
          have kc61 : ((sm_w1 m 72 3 (m.1 72 24)).1 72 21).toInt = (m.1 72 21).toInt := rfl
          have kf62 : Fr wX12_land m0 (sm_w1 m 72 3 (m.1 72 24)) := Fr.w hF rfl
          have kf63 : Fr wX12_land m0 (sm_w1 (sm_w1 m 72 3 (m.1 72 24)) 72 6 (m.1 72 25)) := Fr.w kf62 rfl
          have kf64 : Fr wX12_land m0 (sm_w1 (sm_w1 (sm_w1 m 72 3 (m.1 72 24)) 72 6 (m.1 72 25)) 72 14 ((m.1 72 14) ||| (m.1 72 26))) := Fr.w kf63 rfl
          have kf65 : Fr wX12_land m0 (sm_w1 (sm_w1 (sm_w1 (sm_w1 m 72 3 (m.1 72 24)) 72 6 (m.1 72 25)) 72 14 ((m.1 72 14) ||| (m.1 72 26))) 72 27 (0 : Int32)) := Fr.w kf64 rfl
          exact s_ret ⟨(show (((sm_w1 (sm_w1 (sm_w1 (sm_w1 m 72 3 (m.1 72 24)) 72 6 (m.1 72 25)) 72 14 ((m.1 72 14) ||| (m.1 72 26))) 72 27 (0 : Int32)).1 72 21).toInt = 0) by omega), ki53, kf65⟩
      · exact s_ret ⟨(show ((m.1 72 21).toInt = 0) by omega), hI, hF⟩
    · have kc66 := L64
      refine s_bd (zX12_isAt (64 : Int32) m (show 64 ≤ (64 : Int32).toInt ∧ (64 : Int32).toInt ≤ 64 by omega) hI) (fun r6 kr67 => ?_)
      replace kr67 : (0 ≤ r6.toInt) ∧ (r6.toInt ≤ 1) := kr67
      refine s_eq (fun kh68 => ?_) (fun kh68 => ?_)
      · refine s_bd (zX12_readsHedge m hI) (fun r8 kr69 => ?_)
        obtain ⟨kp70, ki71, kf72⟩ := kr69
        replace kp70 : (0 ≤ r8.1.toInt) ∧ (r8.1.toInt ≤ 1) ∧ ((m.1 72 22).toInt ≤ (r8.2.1 72 22).toInt) := kp70
        have kc73 : 0 ≤ (r8.2.1 72 22).toInt ∧ (r8.2.1 72 22).toInt ≤ 80 := ki71.1 72 22
        refine s_eq (fun kh74 => ?_) (fun kh74 => ?_)
        · have kc75 : 0 ≤ (r8.2.1 72 21).toInt ∧ (r8.2.1 72 21).toInt ≤ 80 := ki71.1 72 21
          have kc76 : (r8.2.1 72 21).toInt = (m.1 72 21).toInt := congrArg Int32.toInt (kf72 72 21 rfl)
          have kf77 : Fr wX12_land m0 r8.2 := Fr.trans hF kf72 rfl
          exact ih v1 (v2 + (1 : Int32)) r8.1 (0 : Int32) r8.2 (show 0 ≤ v1.toInt ∧ v1.toInt ≤ 80 ∧ 0 ≤ (r8.1).toInt ∧ (r8.1).toInt ≤ 1 ∧ 0 ≤ (0 : Int32).toInt ∧ (0 : Int32).toInt ≤ 1 ∧ 2 * (81 - (r8.2.1 72 22).toInt) + (0 : Int32).toInt < (n : Int) ∧ (r8.2.1 72 21).toInt = 0 by omega) ki71 kf77
        · have kc78 := L59
          refine s_bd (zX12_takes (59 : Int32) r8.2 (show 58 ≤ (59 : Int32).toInt ∧ (59 : Int32).toInt ≤ 126 by omega) ki71) (fun r10 kr79 => ?_)
          obtain ⟨kp80, ki81, kf82⟩ := kr79
          replace kp80 : (0 ≤ r10.1.toInt) ∧ (r10.1.toInt ≤ 1) ∧ ((r10.2.1 72 22).toInt = (r8.2.1 72 22).toInt + r10.1.toInt) := kp80
          have kc83 : 0 ≤ (r10.2.1 72 22).toInt ∧ (r10.2.1 72 22).toInt ≤ 80 := ki81.1 72 22
          refine s_eq (fun kh84 => ?_) (fun kh84 => ?_)
          · have kc85 : 0 ≤ (r10.2.1 72 21).toInt ∧ (r10.2.1 72 21).toInt ≤ 80 := ki81.1 72 21
            have kc86 : (r10.2.1 72 21).toInt = (r8.2.1 72 21).toInt := congrArg Int32.toInt (kf82 72 21 rfl)
            have kc87 : 0 ≤ (r8.2.1 72 21).toInt ∧ (r8.2.1 72 21).toInt ≤ 80 := ki71.1 72 21
            have kc88 : (r8.2.1 72 21).toInt = (m.1 72 21).toInt := congrArg Int32.toInt (kf72 72 21 rfl)
            have kf89 : Fr wX12_land m0 r8.2 := Fr.trans hF kf72 rfl
            have kf90 : Fr wX12_land m0 r10.2 := Fr.trans kf89 kf82 rfl
            exact ih v1 (v2 + (1 : Int32)) r8.1 (0 : Int32) r10.2 (show 0 ≤ v1.toInt ∧ v1.toInt ≤ 80 ∧ 0 ≤ (r8.1).toInt ∧ (r8.1).toInt ≤ 1 ∧ 0 ≤ (0 : Int32).toInt ∧ (0 : Int32).toInt ≤ 1 ∧ 2 * (81 - (r10.2.1 72 22).toInt) + (0 : Int32).toInt < (n : Int) ∧ (r10.2.1 72 21).toInt = 0 by omega) ki81 kf90
          · have kc91 := L1
            have kc92 : 0 ≤ (r10.2.1 72 21).toInt ∧ (r10.2.1 72 21).toInt ≤ 80 := ki81.1 72 21
            have kc93 : (r10.2.1 72 21).toInt = (r8.2.1 72 21).toInt := congrArg Int32.toInt (kf82 72 21 rfl)
            have kc94 : 0 ≤ (r8.2.1 72 21).toInt ∧ (r8.2.1 72 21).toInt ≤ 80 := ki71.1 72 21
            have kc95 : (r8.2.1 72 21).toInt = (m.1 72 21).toInt := congrArg Int32.toInt (kf72 72 21 rfl)
            have kf96 : Fr wX12_land m0 r8.2 := Fr.trans hF kf72 rfl
            have kf97 : Fr wX12_land m0 r10.2 := Fr.trans kf96 kf82 rfl
            exact ih v1 (v2 + (1 : Int32)) r8.1 (1 : Int32) r10.2 (show 0 ≤ v1.toInt ∧ v1.toInt ≤ 80 ∧ 0 ≤ (r8.1).toInt ∧ (r8.1).toInt ≤ 1 ∧ 0 ≤ (1 : Int32).toInt ∧ (1 : Int32).toInt ≤ 1 ∧ 2 * (81 - (r10.2.1 72 22).toInt) + (1 : Int32).toInt < (n : Int) ∧ (r10.2.1 72 21).toInt = 0 by omega) ki81 kf97
      · refine s_bd (zX12_readsCorner m hI) (fun r12 kr98 => ?_)
        obtain ⟨kp99, ki100, kf101⟩ := kr98
        replace kp99 : (0 ≤ r12.1.toInt) ∧ (r12.1.toInt ≤ 1) ∧ ((m.1 72 22).toInt ≤ (r12.2.1 72 22).toInt) := kp99
        have kc102 : 0 ≤ (r12.2.1 72 22).toInt ∧ (r12.2.1 72 22).toInt ≤ 80 := ki100.1 72 22
        refine s_eq (fun kh103 => ?_) (fun kh103 => ?_)
        · have kc104 : 0 ≤ (r12.2.1 72 21).toInt ∧ (r12.2.1 72 21).toInt ≤ 80 := ki100.1 72 21
          have kc105 : (r12.2.1 72 21).toInt = (m.1 72 21).toInt := congrArg Int32.toInt (kf101 72 21 rfl)
          have kf106 : Fr wX12_land m0 r12.2 := Fr.trans hF kf101 rfl
          exact ih v1 (v2 + (1 : Int32)) r12.1 (0 : Int32) r12.2 (show 0 ≤ v1.toInt ∧ v1.toInt ≤ 80 ∧ 0 ≤ (r12.1).toInt ∧ (r12.1).toInt ≤ 1 ∧ 0 ≤ (0 : Int32).toInt ∧ (0 : Int32).toInt ≤ 1 ∧ 2 * (81 - (r12.2.1 72 22).toInt) + (0 : Int32).toInt < (n : Int) ∧ (r12.2.1 72 21).toInt = 0 by omega) ki100 kf106
        · have kc107 := L59
          refine s_bd (zX12_takes (59 : Int32) r12.2 (show 58 ≤ (59 : Int32).toInt ∧ (59 : Int32).toInt ≤ 126 by omega) ki100) (fun r14 kr108 => ?_)
          obtain ⟨kp109, ki110, kf111⟩ := kr108
          replace kp109 : (0 ≤ r14.1.toInt) ∧ (r14.1.toInt ≤ 1) ∧ ((r14.2.1 72 22).toInt = (r12.2.1 72 22).toInt + r14.1.toInt) := kp109
          have kc112 : 0 ≤ (r14.2.1 72 22).toInt ∧ (r14.2.1 72 22).toInt ≤ 80 := ki110.1 72 22
          refine s_eq (fun kh113 => ?_) (fun kh113 => ?_)
          · have kc114 : 0 ≤ (r14.2.1 72 21).toInt ∧ (r14.2.1 72 21).toInt ≤ 80 := ki110.1 72 21
            have kc115 : (r14.2.1 72 21).toInt = (r12.2.1 72 21).toInt := congrArg Int32.toInt (kf111 72 21 rfl)
            have kc116 : 0 ≤ (r12.2.1 72 21).toInt ∧ (r12.2.1 72 21).toInt ≤ 80 := ki100.1 72 21
            have kc117 : (r12.2.1 72 21).toInt = (m.1 72 21).toInt := congrArg Int32.toInt (kf101 72 21 rfl)
            have kf118 : Fr wX12_land m0 r12.2 := Fr.trans hF kf101 rfl
            have kf119 : Fr wX12_land m0 r14.2 := Fr.trans kf118 kf111 rfl
            exact ih v1 (v2 + (1 : Int32)) r12.1 (0 : Int32) r14.2 (show 0 ≤ v1.toInt ∧ v1.toInt ≤ 80 ∧ 0 ≤ (r12.1).toInt ∧ (r12.1).toInt ≤ 1 ∧ 0 ≤ (0 : Int32).toInt ∧ (0 : Int32).toInt ≤ 1 ∧ 2 * (81 - (r14.2.1 72 22).toInt) + (0 : Int32).toInt < (n : Int) ∧ (r14.2.1 72 21).toInt = 0 by omega) ki110 kf119
          · have kc120 := L1
            have kc121 : 0 ≤ (r14.2.1 72 21).toInt ∧ (r14.2.1 72 21).toInt ≤ 80 := ki110.1 72 21
            have kc122 : (r14.2.1 72 21).toInt = (r12.2.1 72 21).toInt := congrArg Int32.toInt (kf111 72 21 rfl)
            have kc123 : 0 ≤ (r12.2.1 72 21).toInt ∧ (r12.2.1 72 21).toInt ≤ 80 := ki100.1 72 21
            have kc124 : (r12.2.1 72 21).toInt = (m.1 72 21).toInt := congrArg Int32.toInt (kf101 72 21 rfl)
            have kf125 : Fr wX12_land m0 r12.2 := Fr.trans hF kf101 rfl
            have kf126 : Fr wX12_land m0 r14.2 := Fr.trans kf125 kf111 rfl
            exact ih v1 (v2 + (1 : Int32)) r12.1 (1 : Int32) r14.2 (show 0 ≤ v1.toInt ∧ v1.toInt ≤ 80 ∧ 0 ≤ (r12.1).toInt ∧ (r12.1).toInt ≤ 1 ∧ 0 ≤ (1 : Int32).toInt ∧ (1 : Int32).toInt ≤ 1 ∧ 2 * (81 - (r14.2.1 72 22).toInt) + (1 : Int32).toInt < (n : Int) ∧ (r14.2.1 72 21).toInt = 0 by omega) ki110 kf126
theorem zX12_land (m : sm_S) (hI : zI m) : Sf (fun r => (((r.2.1 72 21).toInt = 0)) ∧ zI r.2 ∧ Fr wX12_land m r.2) (fX12_land m) := by
  have hfu := fuE
  unfold fX12_land
  have kc1 := L76
  have kc2 := L0
  have ki3 : zI (sm_w1 m 72 0 (0 : Int32)) := zI.w hI rfl (show 0 ≤ ((0 : Int32)).toInt ∧ ((0 : Int32)).toInt ≤ 1 by omega)
  refine s_bd (zX12_begins (76 : Int32) (sm_w1 m 72 0 (0 : Int32)) (show 30 ≤ (76 : Int32).toInt ∧ (76 : Int32).toInt ≤ 76 by omega) ki3) (fun r2 kr4 => ?_)
  obtain ⟨kp5, ki6, kf7⟩ := kr4
  replace kp5 : (0 ≤ r2.1.toInt) ∧ (r2.1.toInt ≤ 80) ∧ ((r2.2.1 72 23).toInt ≤ (76 : Int32).toInt) ∧ ((r2.2.1 72 22).toInt = 0) ∧ ((r2.2.1 72 21).toInt = 0) := kp5
  have kc8 : 0 ≤ (r2.2.1 72 23).toInt ∧ (r2.2.1 72 23).toInt ≤ 76 := ki6.1 72 23
  have kc9 : 0 ≤ (r2.2.1 72 22).toInt ∧ (r2.2.1 72 22).toInt ≤ 80 := ki6.1 72 22
  have kc10 : 0 ≤ (r2.2.1 72 21).toInt ∧ (r2.2.1 72 21).toInt ≤ 80 := ki6.1 72 21
  refine s_le (fun kh11 => ?_) (fun kh11 => ?_)
  · have kc12 := L1
    have kc13 : 0 ≤ (r2.2.1 72 3).toInt ∧ (r2.2.1 72 3).toInt ≤ 10 := ki6.1 72 3
    have kc14 : (r2.2.1 72 3).toInt = ((sm_w1 m 72 0 (0 : Int32)).1 72 3).toInt := congrArg Int32.toInt (kf7 72 3 rfl)
    have kc15 : 0 ≤ ((sm_w1 m 72 0 (0 : Int32)).1 72 3).toInt ∧ ((sm_w1 m 72 0 (0 : Int32)).1 72 3).toInt ≤ 10 := ki3.1 72 3
    have kc16 : ((sm_w1 m 72 0 (0 : Int32)).1 72 3).toInt = (m.1 72 3).toInt := rfl
    have kc17 : 0 ≤ (m.1 72 3).toInt ∧ (m.1 72 3).toInt ≤ 10 := hI.1 72 3
    have ki18 : zI (sm_w1 r2.2 72 24 (r2.2.1 72 3)) := zI.w ki6 rfl (show 0 ≤ ((r2.2.1 72 3)).toInt ∧ ((r2.2.1 72 3)).toInt ≤ 10 by omega)
    have kc19 : 0 ≤ (r2.2.1 72 6).toInt ∧ (r2.2.1 72 6).toInt ≤ 14 := ki6.1 72 6
    have kc20 : 0 ≤ (r2.2.1 72 25).toInt ∧ (r2.2.1 72 25).toInt ≤ 14 := ki6.1 72 25
    have kc21 := zI.le ki6
    have kc22 : (r2.2.1 72 25).toInt = ((sm_w1 m 72 0 (0 : Int32)).1 72 25).toInt := congrArg Int32.toInt (kf7 72 25 rfl)
    have kc23 : 0 ≤ ((sm_w1 m 72 0 (0 : Int32)).1 72 25).toInt ∧ ((sm_w1 m 72 0 (0 : Int32)).1 72 25).toInt ≤ 14 := ki3.1 72 25
    have kc24 : 0 ≤ ((sm_w1 m 72 0 (0 : Int32)).1 72 6).toInt ∧ ((sm_w1 m 72 0 (0 : Int32)).1 72 6).toInt ≤ 14 := ki3.1 72 6
    have kc25 := zI.le ki3
    have kc26 : ((sm_w1 m 72 0 (0 : Int32)).1 72 6).toInt = (m.1 72 6).toInt := rfl
    have kc27 : 0 ≤ (m.1 72 6).toInt ∧ (m.1 72 6).toInt ≤ 14 := hI.1 72 6
    have kc28 : 0 ≤ (m.1 72 25).toInt ∧ (m.1 72 25).toInt ≤ 14 := hI.1 72 25
    have kc29 := zI.le hI
    have kc30 : ((sm_w1 m 72 0 (0 : Int32)).1 72 25).toInt = (m.1 72 25).toInt := rfl
    have kc31 : (r2.2.1 72 6).toInt = ((sm_w1 m 72 0 (0 : Int32)).1 72 6).toInt := congrArg Int32.toInt (kf7 72 6 rfl)
    have kc33 : 0 ≤ ((sm_w1 r2.2 72 24 (r2.2.1 72 3)).1 72 6).toInt ∧ ((sm_w1 r2.2 72 24 (r2.2.1 72 3)).1 72 6).toInt ≤ 14 := ki18.1 72 6
    have kc34 : 0 ≤ ((sm_w1 r2.2 72 24 (r2.2.1 72 3)).1 72 25).toInt ∧ ((sm_w1 r2.2 72 24 (r2.2.1 72 3)).1 72 25).toInt ≤ 14 := ki18.1 72 25
    have kc35 := zI.le ki18
    have kc36 : ((sm_w1 r2.2 72 24 (r2.2.1 72 3)).1 72 25).toInt = (r2.2.1 72 25).toInt := rfl
    have kc37 : ((sm_w1 r2.2 72 24 (r2.2.1 72 3)).1 72 6).toInt = (r2.2.1 72 6).toInt := rfl
    have ki32 : zI (sm_w1 (sm_w1 r2.2 72 24 (r2.2.1 72 3)) 72 25 (r2.2.1 72 6)) := zI.w25 ki18 (show 0 ≤ ((r2.2.1 72 6)).toInt ∧ ((r2.2.1 72 6)).toInt ≤ 14 by omega) (show ((sm_w1 r2.2 72 24 (r2.2.1 72 3)).1 72 6).toInt ≤ ((r2.2.1 72 6)).toInt ∧ ((r2.2.1 72 6)).toInt ≤ ((sm_w1 r2.2 72 24 (r2.2.1 72 3)).1 72 25).toInt by omega)
    have ki38 : zI (sm_w1 (sm_w1 (sm_w1 r2.2 72 24 (r2.2.1 72 3)) 72 25 (r2.2.1 72 6)) 72 26 (0 : Int32)) := zI.w ki32 rfl (show 0 ≤ ((0 : Int32)).toInt ∧ ((0 : Int32)).toInt ≤ 16383 by omega)
    have kc39 : 0 ≤ ((sm_w1 (sm_w1 (sm_w1 r2.2 72 24 (r2.2.1 72 3)) 72 25 (r2.2.1 72 6)) 72 26 (0 : Int32)).1 72 22).toInt ∧ ((sm_w1 (sm_w1 (sm_w1 r2.2 72 24 (r2.2.1 72 3)) 72 25 (r2.2.1 72 6)) 72 26 (0 : Int32)).1 72 22).toInt ≤ 80 := ki38.1 72 22
    have kc40 : ((sm_w1 (sm_w1 (sm_w1 r2.2 72 24 (r2.2.1 72 3)) 72 25 (r2.2.1 72 6)) 72 26 (0 : Int32)).1 72 22).toInt = ((sm_w1 (sm_w1 r2.2 72 24 (r2.2.1 72 3)) 72 25 (r2.2.1 72 6)).1 72 22).toInt := rfl
    have kc41 : 0 ≤ ((sm_w1 (sm_w1 r2.2 72 24 (r2.2.1 72 3)) 72 25 (r2.2.1 72 6)).1 72 22).toInt ∧ ((sm_w1 (sm_w1 r2.2 72 24 (r2.2.1 72 3)) 72 25 (r2.2.1 72 6)).1 72 22).toInt ≤ 80 := ki32.1 72 22
    have kc42 : ((sm_w1 (sm_w1 r2.2 72 24 (r2.2.1 72 3)) 72 25 (r2.2.1 72 6)).1 72 22).toInt = ((sm_w1 r2.2 72 24 (r2.2.1 72 3)).1 72 22).toInt := rfl
    have kc43 : 0 ≤ ((sm_w1 r2.2 72 24 (r2.2.1 72 3)).1 72 22).toInt ∧ ((sm_w1 r2.2 72 24 (r2.2.1 72 3)).1 72 22).toInt ≤ 80 := ki18.1 72 22
    have kc44 : ((sm_w1 r2.2 72 24 (r2.2.1 72 3)).1 72 22).toInt = (r2.2.1 72 22).toInt := rfl
    have kc45 : 0 ≤ ((sm_w1 (sm_w1 (sm_w1 r2.2 72 24 (r2.2.1 72 3)) 72 25 (r2.2.1 72 6)) 72 26 (0 : Int32)).1 72 21).toInt ∧ ((sm_w1 (sm_w1 (sm_w1 r2.2 72 24 (r2.2.1 72 3)) 72 25 (r2.2.1 72 6)) 72 26 (0 : Int32)).1 72 21).toInt ≤ 80 := ki38.1 72 21
    have kc46 : ((sm_w1 (sm_w1 (sm_w1 r2.2 72 24 (r2.2.1 72 3)) 72 25 (r2.2.1 72 6)) 72 26 (0 : Int32)).1 72 21).toInt = ((sm_w1 (sm_w1 r2.2 72 24 (r2.2.1 72 3)) 72 25 (r2.2.1 72 6)).1 72 21).toInt := rfl
    have kc47 : 0 ≤ ((sm_w1 (sm_w1 r2.2 72 24 (r2.2.1 72 3)) 72 25 (r2.2.1 72 6)).1 72 21).toInt ∧ ((sm_w1 (sm_w1 r2.2 72 24 (r2.2.1 72 3)) 72 25 (r2.2.1 72 6)).1 72 21).toInt ≤ 80 := ki32.1 72 21
    have kc48 : ((sm_w1 (sm_w1 r2.2 72 24 (r2.2.1 72 3)) 72 25 (r2.2.1 72 6)).1 72 21).toInt = ((sm_w1 r2.2 72 24 (r2.2.1 72 3)).1 72 21).toInt := rfl
    have kc49 : 0 ≤ ((sm_w1 r2.2 72 24 (r2.2.1 72 3)).1 72 21).toInt ∧ ((sm_w1 r2.2 72 24 (r2.2.1 72 3)).1 72 21).toInt ≤ 80 := ki18.1 72 21
    have kc50 : ((sm_w1 r2.2 72 24 (r2.2.1 72 3)).1 72 21).toInt = (r2.2.1 72 21).toInt := rfl
    have kf51 : Fr wX12_land m (sm_w1 m 72 0 (0 : Int32)) := Fr.w Fr.refl rfl
    have kf52 : Fr wX12_land m r2.2 := Fr.trans kf51 kf7 rfl
    have kf53 : Fr wX12_land m (sm_w1 r2.2 72 24 (r2.2.1 72 3)) := Fr.w kf52 rfl
    have kf54 : Fr wX12_land m (sm_w1 (sm_w1 r2.2 72 24 (r2.2.1 72 3)) 72 25 (r2.2.1 72 6)) := Fr.w kf53 rfl
    have kf55 : Fr wX12_land m (sm_w1 (sm_w1 (sm_w1 r2.2 72 24 (r2.2.1 72 3)) 72 25 (r2.2.1 72 6)) 72 26 (0 : Int32)) := Fr.w kf54 rfl
    exact zX12_land_48 m sm_fu r2.1 (0 : Int32) (1 : Int32) (0 : Int32) (sm_w1 (sm_w1 (sm_w1 r2.2 72 24 (r2.2.1 72 3)) 72 25 (r2.2.1 72 6)) 72 26 (0 : Int32)) (show 0 ≤ (r2.1).toInt ∧ (r2.1).toInt ≤ 80 ∧ 0 ≤ (1 : Int32).toInt ∧ (1 : Int32).toInt ≤ 1 ∧ 0 ≤ (0 : Int32).toInt ∧ (0 : Int32).toInt ≤ 1 ∧ 2 * (81 - ((sm_w1 (sm_w1 (sm_w1 r2.2 72 24 (r2.2.1 72 3)) 72 25 (r2.2.1 72 6)) 72 26 (0 : Int32)).1 72 22).toInt) + (0 : Int32).toInt < (sm_fu : Int) ∧ ((sm_w1 (sm_w1 (sm_w1 r2.2 72 24 (r2.2.1 72 3)) 72 25 (r2.2.1 72 6)) 72 26 (0 : Int32)).1 72 21).toInt = 0 by omega) ki38 kf55
  · have kc56 := L1
    have kc57 : 0 ≤ (r2.2.1 72 3).toInt ∧ (r2.2.1 72 3).toInt ≤ 10 := ki6.1 72 3
    have kc58 : (r2.2.1 72 3).toInt = ((sm_w1 m 72 0 (0 : Int32)).1 72 3).toInt := congrArg Int32.toInt (kf7 72 3 rfl)
    have kc59 : 0 ≤ ((sm_w1 m 72 0 (0 : Int32)).1 72 3).toInt ∧ ((sm_w1 m 72 0 (0 : Int32)).1 72 3).toInt ≤ 10 := ki3.1 72 3
    have kc60 : ((sm_w1 m 72 0 (0 : Int32)).1 72 3).toInt = (m.1 72 3).toInt := rfl
    have kc61 : 0 ≤ (m.1 72 3).toInt ∧ (m.1 72 3).toInt ≤ 10 := hI.1 72 3
    have ki62 : zI (sm_w1 r2.2 72 24 (r2.2.1 72 3)) := zI.w ki6 rfl (show 0 ≤ ((r2.2.1 72 3)).toInt ∧ ((r2.2.1 72 3)).toInt ≤ 10 by omega)
    have kc63 : 0 ≤ (r2.2.1 72 6).toInt ∧ (r2.2.1 72 6).toInt ≤ 14 := ki6.1 72 6
    have kc64 : 0 ≤ (r2.2.1 72 25).toInt ∧ (r2.2.1 72 25).toInt ≤ 14 := ki6.1 72 25
    have kc65 := zI.le ki6
    have kc66 : (r2.2.1 72 25).toInt = ((sm_w1 m 72 0 (0 : Int32)).1 72 25).toInt := congrArg Int32.toInt (kf7 72 25 rfl)
    have kc67 : 0 ≤ ((sm_w1 m 72 0 (0 : Int32)).1 72 25).toInt ∧ ((sm_w1 m 72 0 (0 : Int32)).1 72 25).toInt ≤ 14 := ki3.1 72 25
    have kc68 : 0 ≤ ((sm_w1 m 72 0 (0 : Int32)).1 72 6).toInt ∧ ((sm_w1 m 72 0 (0 : Int32)).1 72 6).toInt ≤ 14 := ki3.1 72 6
    have kc69 := zI.le ki3
    have kc70 : ((sm_w1 m 72 0 (0 : Int32)).1 72 6).toInt = (m.1 72 6).toInt := rfl
    have kc71 : 0 ≤ (m.1 72 6).toInt ∧ (m.1 72 6).toInt ≤ 14 := hI.1 72 6
    have kc72 : 0 ≤ (m.1 72 25).toInt ∧ (m.1 72 25).toInt ≤ 14 := hI.1 72 25
    have kc73 := zI.le hI
    have kc74 : ((sm_w1 m 72 0 (0 : Int32)).1 72 25).toInt = (m.1 72 25).toInt := rfl
    have kc75 : (r2.2.1 72 6).toInt = ((sm_w1 m 72 0 (0 : Int32)).1 72 6).toInt := congrArg Int32.toInt (kf7 72 6 rfl)
    have kc77 : 0 ≤ ((sm_w1 r2.2 72 24 (r2.2.1 72 3)).1 72 6).toInt ∧ ((sm_w1 r2.2 72 24 (r2.2.1 72 3)).1 72 6).toInt ≤ 14 := ki62.1 72 6
    have kc78 : 0 ≤ ((sm_w1 r2.2 72 24 (r2.2.1 72 3)).1 72 25).toInt ∧ ((sm_w1 r2.2 72 24 (r2.2.1 72 3)).1 72 25).toInt ≤ 14 := ki62.1 72 25
    have kc79 := zI.le ki62
    have kc80 : ((sm_w1 r2.2 72 24 (r2.2.1 72 3)).1 72 25).toInt = (r2.2.1 72 25).toInt := rfl
    have kc81 : ((sm_w1 r2.2 72 24 (r2.2.1 72 3)).1 72 6).toInt = (r2.2.1 72 6).toInt := rfl
    have ki76 : zI (sm_w1 (sm_w1 r2.2 72 24 (r2.2.1 72 3)) 72 25 (r2.2.1 72 6)) := zI.w25 ki62 (show 0 ≤ ((r2.2.1 72 6)).toInt ∧ ((r2.2.1 72 6)).toInt ≤ 14 by omega) (show ((sm_w1 r2.2 72 24 (r2.2.1 72 3)).1 72 6).toInt ≤ ((r2.2.1 72 6)).toInt ∧ ((r2.2.1 72 6)).toInt ≤ ((sm_w1 r2.2 72 24 (r2.2.1 72 3)).1 72 25).toInt by omega)
    have ki82 : zI (sm_w1 (sm_w1 (sm_w1 r2.2 72 24 (r2.2.1 72 3)) 72 25 (r2.2.1 72 6)) 72 26 (0 : Int32)) := zI.w ki76 rfl (show 0 ≤ ((0 : Int32)).toInt ∧ ((0 : Int32)).toInt ≤ 16383 by omega)
    have kc83 : 0 ≤ ((sm_w1 (sm_w1 (sm_w1 r2.2 72 24 (r2.2.1 72 3)) 72 25 (r2.2.1 72 6)) 72 26 (0 : Int32)).1 72 22).toInt ∧ ((sm_w1 (sm_w1 (sm_w1 r2.2 72 24 (r2.2.1 72 3)) 72 25 (r2.2.1 72 6)) 72 26 (0 : Int32)).1 72 22).toInt ≤ 80 := ki82.1 72 22
    have kc84 : ((sm_w1 (sm_w1 (sm_w1 r2.2 72 24 (r2.2.1 72 3)) 72 25 (r2.2.1 72 6)) 72 26 (0 : Int32)).1 72 22).toInt = ((sm_w1 (sm_w1 r2.2 72 24 (r2.2.1 72 3)) 72 25 (r2.2.1 72 6)).1 72 22).toInt := rfl
    have kc85 : 0 ≤ ((sm_w1 (sm_w1 r2.2 72 24 (r2.2.1 72 3)) 72 25 (r2.2.1 72 6)).1 72 22).toInt ∧ ((sm_w1 (sm_w1 r2.2 72 24 (r2.2.1 72 3)) 72 25 (r2.2.1 72 6)).1 72 22).toInt ≤ 80 := ki76.1 72 22
    have kc86 : ((sm_w1 (sm_w1 r2.2 72 24 (r2.2.1 72 3)) 72 25 (r2.2.1 72 6)).1 72 22).toInt = ((sm_w1 r2.2 72 24 (r2.2.1 72 3)).1 72 22).toInt := rfl
    have kc87 : 0 ≤ ((sm_w1 r2.2 72 24 (r2.2.1 72 3)).1 72 22).toInt ∧ ((sm_w1 r2.2 72 24 (r2.2.1 72 3)).1 72 22).toInt ≤ 80 := ki62.1 72 22
    have kc88 : ((sm_w1 r2.2 72 24 (r2.2.1 72 3)).1 72 22).toInt = (r2.2.1 72 22).toInt := rfl
    have kc89 : 0 ≤ ((sm_w1 (sm_w1 (sm_w1 r2.2 72 24 (r2.2.1 72 3)) 72 25 (r2.2.1 72 6)) 72 26 (0 : Int32)).1 72 21).toInt ∧ ((sm_w1 (sm_w1 (sm_w1 r2.2 72 24 (r2.2.1 72 3)) 72 25 (r2.2.1 72 6)) 72 26 (0 : Int32)).1 72 21).toInt ≤ 80 := ki82.1 72 21
    have kc90 : ((sm_w1 (sm_w1 (sm_w1 r2.2 72 24 (r2.2.1 72 3)) 72 25 (r2.2.1 72 6)) 72 26 (0 : Int32)).1 72 21).toInt = ((sm_w1 (sm_w1 r2.2 72 24 (r2.2.1 72 3)) 72 25 (r2.2.1 72 6)).1 72 21).toInt := rfl
    have kc91 : 0 ≤ ((sm_w1 (sm_w1 r2.2 72 24 (r2.2.1 72 3)) 72 25 (r2.2.1 72 6)).1 72 21).toInt ∧ ((sm_w1 (sm_w1 r2.2 72 24 (r2.2.1 72 3)) 72 25 (r2.2.1 72 6)).1 72 21).toInt ≤ 80 := ki76.1 72 21
    have kc92 : ((sm_w1 (sm_w1 r2.2 72 24 (r2.2.1 72 3)) 72 25 (r2.2.1 72 6)).1 72 21).toInt = ((sm_w1 r2.2 72 24 (r2.2.1 72 3)).1 72 21).toInt := rfl
    have kc93 : 0 ≤ ((sm_w1 r2.2 72 24 (r2.2.1 72 3)).1 72 21).toInt ∧ ((sm_w1 r2.2 72 24 (r2.2.1 72 3)).1 72 21).toInt ≤ 80 := ki62.1 72 21
    have kc94 : ((sm_w1 r2.2 72 24 (r2.2.1 72 3)).1 72 21).toInt = (r2.2.1 72 21).toInt := rfl
    have kf95 : Fr wX12_land m (sm_w1 m 72 0 (0 : Int32)) := Fr.w Fr.refl rfl
    have kf96 : Fr wX12_land m r2.2 := Fr.trans kf95 kf7 rfl
    have kf97 : Fr wX12_land m (sm_w1 r2.2 72 24 (r2.2.1 72 3)) := Fr.w kf96 rfl
    have kf98 : Fr wX12_land m (sm_w1 (sm_w1 r2.2 72 24 (r2.2.1 72 3)) 72 25 (r2.2.1 72 6)) := Fr.w kf97 rfl
    have kf99 : Fr wX12_land m (sm_w1 (sm_w1 (sm_w1 r2.2 72 24 (r2.2.1 72 3)) 72 25 (r2.2.1 72 6)) 72 26 (0 : Int32)) := Fr.w kf98 rfl
    exact zX12_land_48 m sm_fu r2.1 (0 : Int32) (1 : Int32) (1 : Int32) (sm_w1 (sm_w1 (sm_w1 r2.2 72 24 (r2.2.1 72 3)) 72 25 (r2.2.1 72 6)) 72 26 (0 : Int32)) (show 0 ≤ (r2.1).toInt ∧ (r2.1).toInt ≤ 80 ∧ 0 ≤ (1 : Int32).toInt ∧ (1 : Int32).toInt ≤ 1 ∧ 0 ≤ (1 : Int32).toInt ∧ (1 : Int32).toInt ≤ 1 ∧ 2 * (81 - ((sm_w1 (sm_w1 (sm_w1 r2.2 72 24 (r2.2.1 72 3)) 72 25 (r2.2.1 72 6)) 72 26 (0 : Int32)).1 72 22).toInt) + (1 : Int32).toInt < (sm_fu : Int) ∧ ((sm_w1 (sm_w1 (sm_w1 r2.2 72 24 (r2.2.1 72 3)) 72 25 (r2.2.1 72 6)) 72 26 (0 : Int32)).1 72 21).toInt = 0 by omega) ki82 kf99
theorem zX12_isHedge (x1 : Int32) (m : sm_S) (hI : zI m) : Sf (fun r => (0 ≤ r.toInt) ∧ (r.toInt ≤ 1) ∧ ((r.toInt = 0 ∧ (x1.toInt < 0 ∨ (m.1 72 6).toInt ≤ x1.toInt)) ∨ (r.toInt = 1 ∧ 0 ≤ x1.toInt ∧ x1.toInt < (m.1 72 6).toInt))) (fX12_isHedge x1 m) := by
  have hfu := fuE
  unfold fX12_isHedge
  have kc1 : (x1).toInt64.toInt = (x1).toInt := Int32.toInt_toInt64 _
  have kc2 := LL0
  have kc3 : 0 ≤ (m.1 72 6).toInt ∧ (m.1 72 6).toInt ≤ 14 := hI.1 72 6
  have kc4 : 0 ≤ (m.1 72 25).toInt ∧ (m.1 72 25).toInt ≤ 14 := hI.1 72 25
  have kc5 := zI.le hI
  have kc6 : ((m.1 72 6) - (1 : Int32)).toInt = ((m.1 72 6)).toInt - 1 := a_subl L1 (by omega) (by omega)
  have kc7 : (((m.1 72 6) - (1 : Int32))).toInt64.toInt = (((m.1 72 6) - (1 : Int32))).toInt := Int32.toInt_toInt64 _
  refine s_bd (zX12_in (x1).toInt64 (0 : Int64) (((m.1 72 6) - (1 : Int32))).toInt64 m (show (-1 : Int) ≤ (0 : Int64).toInt ∧ (0 : Int64).toInt ≤ 48 ∧ (-1 : Int) ≤ (((m.1 72 6) - (1 : Int32))).toInt64.toInt ∧ (((m.1 72 6) - (1 : Int32))).toInt64.toInt ≤ 9999 by omega) hI) (fun r2 kr8 => ?_)
  replace kr8 : (0 ≤ r2.toInt) ∧ (r2.toInt ≤ 1) ∧ ((r2.toInt = 0 ∧ ((x1).toInt64.toInt < (0 : Int64).toInt ∨ (((m.1 72 6) - (1 : Int32))).toInt64.toInt < (x1).toInt64.toInt)) ∨ (r2.toInt = 1 ∧ (0 : Int64).toInt ≤ (x1).toInt64.toInt ∧ (x1).toInt64.toInt ≤ (((m.1 72 6) - (1 : Int32))).toInt64.toInt)) := kr8
  refine s_nb (show (r2).toInt = 0 ∨ (r2).toInt = 1 by omega) ?_
  exact s_ret (show (0 ≤ r2.toInt) ∧ (r2.toInt ≤ 1) ∧ ((r2.toInt = 0 ∧ (x1.toInt < 0 ∨ (m.1 72 6).toInt ≤ x1.toInt)) ∨ (r2.toInt = 1 ∧ 0 ≤ x1.toInt ∧ x1.toInt < (m.1 72 6).toInt)) by omega)
theorem zX12_refuse (m : sm_S) (hI : zI m) : Sf (fun r => ((0 ≤ r.1.toInt) ∧ (r.1.toInt ≤ 0)) ∧ zI r.2 ∧ Fr wX12_refuse m r.2) (fX12_refuse m) := by
  have hfu := fuE
  unfold fX12_refuse
  have kc1 := L0
  have kc2 := L1
  have ki3 : zI (sm_w1 m 72 0 (1 : Int32)) := zI.w hI rfl (show 0 ≤ ((1 : Int32)).toInt ∧ ((1 : Int32)).toInt ≤ 1 by omega)
  have kf4 : Fr wX12_refuse m (sm_w1 m 72 0 (1 : Int32)) := Fr.w Fr.refl rfl
  exact s_ret ⟨(show (0 ≤ (0 : Int32).toInt) ∧ ((0 : Int32).toInt ≤ 0) by omega), ki3, kf4⟩
theorem zX12_has (x1 : Int32) (x2 : Int32) (m : sm_S) (hp : 0 ≤ x1.toInt ∧ x1.toInt ≤ 16383 ∧ 0 ≤ x2.toInt ∧ x2.toInt ≤ 13) (hI : zI m) : Sf (fun r => (0 ≤ r.toInt) ∧ (r.toInt ≤ 1)) (fX12_has x1 x2 m) := by
  have hfu := fuE
  unfold fX12_has
  have kc1 := L31
  have kc2 : 0 ≤ (x2 &&& (31 : Int32)).toInt ∧ (x2 &&& (31 : Int32)).toInt ≤ ((31 : Int32)).toInt := a_andr (by omega)
  have kc3 : 0 ≤ (x2 &&& (31 : Int32)).toInt ∧ (x2 &&& (31 : Int32)).toInt ≤ (x2).toInt := a_andl (by omega)
  have kc4 : 0 ≤ (x1 >>> (x2 &&& (31 : Int32))).toInt ∧ (x1 >>> (x2 &&& (31 : Int32))).toInt ≤ (x1).toInt := a_shr (by omega)
  have kc5 := L1
  have kc6 : 0 ≤ ((x1 >>> (x2 &&& (31 : Int32))) &&& (1 : Int32)).toInt ∧ ((x1 >>> (x2 &&& (31 : Int32))) &&& (1 : Int32)).toInt ≤ ((1 : Int32)).toInt := a_andr (by omega)
  have kc7 : 0 ≤ ((x1 >>> (x2 &&& (31 : Int32))) &&& (1 : Int32)).toInt ∧ ((x1 >>> (x2 &&& (31 : Int32))) &&& (1 : Int32)).toInt ≤ ((x1 >>> (x2 &&& (31 : Int32)))).toInt := a_andl (by omega)
  refine s_eq (fun kh8 => ?_) (fun kh8 => ?_)
  · exact s_ret (show (0 ≤ (1 : Int32).toInt) ∧ ((1 : Int32).toInt ≤ 1) by omega)
  · have kc9 := L0
    exact s_ret (show (0 ≤ (0 : Int32).toInt) ∧ ((0 : Int32).toInt ≤ 1) by omega)
theorem zX12_dayOf (x1 : Int32) (m : sm_S) (hp : 0 ≤ x1.toInt ∧ x1.toInt ≤ 9999) (hI : zI m) : Sf (fun r => (0 ≤ r.toInt) ∧ (r.toInt ≤ 166)) (fX12_dayOf x1 m) := by
  have hfu := fuE
  unfold fX12_dayOf
  have kc1 := L60
  have kc2 : (x1 / (60 : Int32)).toInt = (x1).toInt / 60 := (a_div (by omega) (by omega)).trans (congrArg (fun z => (x1).toInt / z) L60)
  exact s_ret (show (0 ≤ (x1 / (60 : Int32)).toInt) ∧ ((x1 / (60 : Int32)).toInt ≤ 166) by omega)
theorem zX12_isFresh (x1 : Int32) (x2 : Int32) (m : sm_S) (hp : 0 ≤ x1.toInt ∧ x1.toInt ≤ 13 ∧ 0 ≤ x2.toInt ∧ x2.toInt ≤ 9999 ∧ x1.toInt < (m.1 72 6).toInt) (hI : zI m) : Sf (fun r => (0 ≤ r.toInt) ∧ (r.toInt ≤ 1)) (fX12_isFresh x1 x2 m) := by
  have hfu := fuE
  have kc1 : 0 ≤ (m.1 72 6).toInt ∧ (m.1 72 6).toInt ≤ 14 := hI.1 72 6
  have kc2 : 0 ≤ (m.1 72 25).toInt ∧ (m.1 72 25).toInt ≤ 14 := hI.1 72 25
  have kc3 := zI.le hI
  unfold fX12_isFresh
  have kx4 : 0 ≤ (x1).toInt ∧ (x1).toInt < (14 : Int) := by omega
  refine s_ix kx4 ?_
  have kc5 := L0
  refine s_lt (fun kh6 => ?_) (fun kh6 => ?_)
  · have kc7 := L1
    exact s_ret (show (0 ≤ (1 : Int32).toInt) ∧ ((1 : Int32).toInt ≤ 1) by omega)
  · refine s_bd (zX12_dayOf x2 m (show 0 ≤ x2.toInt ∧ x2.toInt ≤ 9999 by omega) hI) (fun r3 kr8 => ?_)
    replace kr8 : (0 ≤ r3.toInt) ∧ (r3.toInt ≤ 166) := kr8
    refine s_ix kx4 ?_
    have kc9 := rg (m.1 83 (x1).toNatClampNeg)
    have kc10 : (r3 - (m.1 83 (x1).toNatClampNeg)).toInt = (r3).toInt - ((m.1 83 (x1).toNatClampNeg)).toInt := a_sub (by omega) (by omega)
    have kc11 : 0 ≤ (m.1 72 15).toInt ∧ (m.1 72 15).toInt ≤ 99 := hI.1 72 15
    refine s_lt (fun kh12 => ?_) (fun kh12 => ?_)
    · exact s_ret (show (0 ≤ (0 : Int32).toInt) ∧ ((0 : Int32).toInt ≤ 1) by omega)
    · have kc13 := L1
      exact s_ret (show (0 ≤ (1 : Int32).toInt) ∧ ((1 : Int32).toInt ≤ 1) by omega)
theorem zX12_hedge (x1 : Int32) (x2 : Int32) (m : sm_S) (hI : zI m) : Sf (fun r => (((-1 : Int) ≤ r.1.toInt) ∧ (r.1.toInt ≤ 20)) ∧ zI r.2 ∧ Fr wX12_hedge m r.2) (fX12_hedge x1 x2 m) := by
  have hfu := fuE
  unfold fX12_hedge
  have kc1 := L0
  have ki2 : zI (sm_w1 m 72 0 (0 : Int32)) := zI.w hI rfl (show 0 ≤ ((0 : Int32)).toInt ∧ ((0 : Int32)).toInt ≤ 1 by omega)
  refine s_bd (zX12_isHedge x1 (sm_w1 m 72 0 (0 : Int32)) ki2) (fun r2 kr3 => ?_)
  replace kr3 : (0 ≤ r2.toInt) ∧ (r2.toInt ≤ 1) ∧ ((r2.toInt = 0 ∧ (x1.toInt < 0 ∨ ((sm_w1 m 72 0 (0 : Int32)).1 72 6).toInt ≤ x1.toInt)) ∨ (r2.toInt = 1 ∧ 0 ≤ x1.toInt ∧ x1.toInt < ((sm_w1 m 72 0 (0 : Int32)).1 72 6).toInt)) := kr3
  have kc4 : 0 ≤ ((sm_w1 m 72 0 (0 : Int32)).1 72 6).toInt ∧ ((sm_w1 m 72 0 (0 : Int32)).1 72 6).toInt ≤ 14 := ki2.1 72 6
  have kc5 : 0 ≤ ((sm_w1 m 72 0 (0 : Int32)).1 72 25).toInt ∧ ((sm_w1 m 72 0 (0 : Int32)).1 72 25).toInt ≤ 14 := ki2.1 72 25
  have kc6 := zI.le ki2
  have kc7 : ((sm_w1 m 72 0 (0 : Int32)).1 72 25).toInt = (m.1 72 25).toInt := rfl
  have kc8 : 0 ≤ (m.1 72 25).toInt ∧ (m.1 72 25).toInt ≤ 14 := hI.1 72 25
  have kc9 : 0 ≤ (m.1 72 6).toInt ∧ (m.1 72 6).toInt ≤ 14 := hI.1 72 6
  have kc10 := zI.le hI
  have kc11 : ((sm_w1 m 72 0 (0 : Int32)).1 72 6).toInt = (m.1 72 6).toInt := rfl
  refine s_eq (fun kh12 => ?_) (fun kh12 => ?_)
  · refine s_bd (zX12_refuse (sm_w1 m 72 0 (0 : Int32)) ki2) (fun r4 kr13 => ?_)
    obtain ⟨kp14, ki15, kf16⟩ := kr13
    replace kp14 : (0 ≤ r4.1.toInt) ∧ (r4.1.toInt ≤ 0) := kp14
    have kf17 : Fr wX12_hedge m (sm_w1 m 72 0 (0 : Int32)) := Fr.w Fr.refl rfl
    have kf18 : Fr wX12_hedge m r4.2 := Fr.trans kf17 kf16 rfl
    exact s_ret ⟨(show ((-1 : Int) ≤ r4.1.toInt) ∧ (r4.1.toInt ≤ 20) by omega), ki15, kf18⟩
  · have kc19 : (x2).toInt64.toInt = (x2).toInt := Int32.toInt_toInt64 _
    have kc20 := LL0
    have kc21 := LL8
    refine s_bd (zX12_in (x2).toInt64 (0 : Int64) (8 : Int64) (sm_w1 m 72 0 (0 : Int32)) (show (-1 : Int) ≤ (0 : Int64).toInt ∧ (0 : Int64).toInt ≤ 48 ∧ (-1 : Int) ≤ (8 : Int64).toInt ∧ (8 : Int64).toInt ≤ 9999 by omega) ki2) (fun r6 kr22 => ?_)
    replace kr22 : (0 ≤ r6.toInt) ∧ (r6.toInt ≤ 1) ∧ ((r6.toInt = 0 ∧ ((x2).toInt64.toInt < (0 : Int64).toInt ∨ (8 : Int64).toInt < (x2).toInt64.toInt)) ∨ (r6.toInt = 1 ∧ (0 : Int64).toInt ≤ (x2).toInt64.toInt ∧ (x2).toInt64.toInt ≤ (8 : Int64).toInt)) := kr22
    refine s_eq (fun kh23 => ?_) (fun kh23 => ?_)
    · refine s_bd (zX12_refuse (sm_w1 m 72 0 (0 : Int32)) ki2) (fun r31 kr24 => ?_)
      obtain ⟨kp25, ki26, kf27⟩ := kr24
      replace kp25 : (0 ≤ r31.1.toInt) ∧ (r31.1.toInt ≤ 0) := kp25
      have kf28 : Fr wX12_hedge m (sm_w1 m 72 0 (0 : Int32)) := Fr.w Fr.refl rfl
      have kf29 : Fr wX12_hedge m r31.2 := Fr.trans kf28 kf27 rfl
      exact s_ret ⟨(show ((-1 : Int) ≤ r31.1.toInt) ∧ (r31.1.toInt ≤ 20) by omega), ki26, kf29⟩
    · refine s_eq (fun kh30 => ?_) (fun kh30 => ?_)
      · have kx31 : 0 ≤ (x1).toInt ∧ (x1).toInt < (14 : Int) := by omega
        refine s_ix kx31 ?_
        have kc32 : (-1 : Int) ≤ (m.1 76 (x1).toNatClampNeg).toInt ∧ (m.1 76 (x1).toNatClampNeg).toInt ≤ 9 := hI.1 76 (x1).toNatClampNeg
        have kc33 : 0 ≤ (m.1 76 (x1).toNatClampNeg).toInt := zI.pf76 hI x1 (by omega) (by omega)
        have kf34 : Fr wX12_hedge m (sm_w1 m 72 0 (0 : Int32)) := Fr.w Fr.refl rfl
        exact s_ret ⟨(show ((-1 : Int) ≤ (m.1 76 (x1).toNatClampNeg).toInt) ∧ ((m.1 76 (x1).toNatClampNeg).toInt ≤ 20) by omega), ki2, kf34⟩
      · have kc35 := L1
        refine s_eq (fun kh36 => ?_) (fun kh36 => ?_)
        · have kx37 : 0 ≤ (x1).toInt ∧ (x1).toInt < (14 : Int) := by omega
          refine s_ix kx37 ?_
          have kc38 : (-1 : Int) ≤ (m.1 77 (x1).toNatClampNeg).toInt ∧ (m.1 77 (x1).toNatClampNeg).toInt ≤ 9 := hI.1 77 (x1).toNatClampNeg
          have kc39 : 0 ≤ (m.1 77 (x1).toNatClampNeg).toInt := zI.pf77 hI x1 (by omega) (by omega)
          have kf40 : Fr wX12_hedge m (sm_w1 m 72 0 (0 : Int32)) := Fr.w Fr.refl rfl
          exact s_ret ⟨(show ((-1 : Int) ≤ (m.1 77 (x1).toNatClampNeg).toInt) ∧ ((m.1 77 (x1).toNatClampNeg).toInt ≤ 20) by omega), ki2, kf40⟩
        · have kc41 := L2
          refine s_eq (fun kh42 => ?_) (fun kh42 => ?_)
          · have kx43 : 0 ≤ (x1).toInt ∧ (x1).toInt < (14 : Int) := by omega
            refine s_ix kx43 ?_
            have kc44 : (-1 : Int) ≤ (m.1 78 (x1).toNatClampNeg).toInt ∧ (m.1 78 (x1).toNatClampNeg).toInt ≤ 20 := hI.1 78 (x1).toNatClampNeg
            have kc45 : 1 ≤ (m.1 78 (x1).toNatClampNeg).toInt := zI.pf78 hI x1 (by omega) (by omega)
            have kf46 : Fr wX12_hedge m (sm_w1 m 72 0 (0 : Int32)) := Fr.w Fr.refl rfl
            exact s_ret ⟨(show ((-1 : Int) ≤ (m.1 78 (x1).toNatClampNeg).toInt) ∧ ((m.1 78 (x1).toNatClampNeg).toInt ≤ 20) by omega), ki2, kf46⟩
          · have kc47 := L3
            refine s_eq (fun kh48 => ?_) (fun kh48 => ?_)
            · have kx49 : 0 ≤ (x1).toInt ∧ (x1).toInt < (14 : Int) := by omega
              refine s_ix kx49 ?_
              have kc50 : (-1 : Int) ≤ (m.1 79 (x1).toNatClampNeg).toInt ∧ (m.1 79 (x1).toNatClampNeg).toInt ≤ 9 := hI.1 79 (x1).toNatClampNeg
              have kf51 : Fr wX12_hedge m (sm_w1 m 72 0 (0 : Int32)) := Fr.w Fr.refl rfl
              exact s_ret ⟨(show ((-1 : Int) ≤ (m.1 79 (x1).toNatClampNeg).toInt) ∧ ((m.1 79 (x1).toNatClampNeg).toInt ≤ 20) by omega), ki2, kf51⟩
            · have kc52 := L4
              refine s_eq (fun kh53 => ?_) (fun kh53 => ?_)
              · have kx54 : 0 ≤ (x1).toInt ∧ (x1).toInt < (14 : Int) := by omega
                refine s_ix kx54 ?_
                have kc55 : (-1 : Int) ≤ (m.1 80 (x1).toNatClampNeg).toInt ∧ (m.1 80 (x1).toNatClampNeg).toInt ≤ 9 := hI.1 80 (x1).toNatClampNeg
                have kf56 : Fr wX12_hedge m (sm_w1 m 72 0 (0 : Int32)) := Fr.w Fr.refl rfl
                exact s_ret ⟨(show ((-1 : Int) ≤ (m.1 80 (x1).toNatClampNeg).toInt) ∧ ((m.1 80 (x1).toNatClampNeg).toInt ≤ 20) by omega), ki2, kf56⟩
              · have kc57 := L5
                refine s_eq (fun kh58 => ?_) (fun kh58 => ?_)
                · have kx59 : 0 ≤ (x1).toInt ∧ (x1).toInt < (14 : Int) := by omega
                  refine s_ix kx59 ?_
                  have kc60 : (-1 : Int) ≤ (m.1 81 (x1).toNatClampNeg).toInt ∧ (m.1 81 (x1).toNatClampNeg).toInt ≤ 9 := hI.1 81 (x1).toNatClampNeg
                  have kf61 : Fr wX12_hedge m (sm_w1 m 72 0 (0 : Int32)) := Fr.w Fr.refl rfl
                  exact s_ret ⟨(show ((-1 : Int) ≤ (m.1 81 (x1).toNatClampNeg).toInt) ∧ ((m.1 81 (x1).toNatClampNeg).toInt ≤ 20) by omega), ki2, kf61⟩
                · have kc62 := L6
                  refine s_eq (fun kh63 => ?_) (fun kh63 => ?_)
                  · have kx64 : 0 ≤ (x1).toInt ∧ (x1).toInt < (14 : Int) := by omega
                    refine s_ix kx64 ?_
                    have kc65 : (-1 : Int) ≤ (m.1 82 (x1).toNatClampNeg).toInt ∧ (m.1 82 (x1).toNatClampNeg).toInt ≤ 9 := hI.1 82 (x1).toNatClampNeg
                    have kc66 : 0 ≤ (m.1 82 (x1).toNatClampNeg).toInt := zI.pf82 hI x1 (by omega) (by omega)
                    have kf67 : Fr wX12_hedge m (sm_w1 m 72 0 (0 : Int32)) := Fr.w Fr.refl rfl
                    exact s_ret ⟨(show ((-1 : Int) ≤ (m.1 82 (x1).toNatClampNeg).toInt) ∧ ((m.1 82 (x1).toNatClampNeg).toInt ≤ 20) by omega), ki2, kf67⟩
                  · have kc68 := L7
                    refine s_eq (fun kh69 => ?_) (fun kh69 => ?_)
                    · have kc70 : 0 ≤ (m.1 72 14).toInt ∧ (m.1 72 14).toInt ≤ 16383 := hI.1 72 14
                      refine s_bd (zX12_has (m.1 72 14) x1 (sm_w1 m 72 0 (0 : Int32)) (show 0 ≤ (m.1 72 14).toInt ∧ (m.1 72 14).toInt ≤ 16383 ∧ 0 ≤ x1.toInt ∧ x1.toInt ≤ 13 by omega) ki2) (fun r23 kr71 => ?_)
                      replace kr71 : (0 ≤ r23.toInt) ∧ (r23.toInt ≤ 1) := kr71
                      refine s_bd (zX12_flag r23 (sm_w1 m 72 0 (0 : Int32)) (show 0 ≤ r23.toInt ∧ r23.toInt ≤ 1 by omega) ki2) (fun r25 kr72 => ?_)
                      replace kr72 : (0 ≤ r25.toInt) ∧ (r25.toInt ≤ 1) ∧ (r25.toInt = r23.toInt) := kr72
                      have kf73 : Fr wX12_hedge m (sm_w1 m 72 0 (0 : Int32)) := Fr.w Fr.refl rfl
                      exact s_ret ⟨(show ((-1 : Int) ≤ r25.toInt) ∧ (r25.toInt ≤ 20) by omega), ki2, kf73⟩
                    · have kc74 : 0 ≤ (m.1 72 18).toInt ∧ (m.1 72 18).toInt ≤ 9999 := hI.1 72 18
                      refine s_bd (zX12_isFresh x1 (m.1 72 18) (sm_w1 m 72 0 (0 : Int32)) (show 0 ≤ x1.toInt ∧ x1.toInt ≤ 13 ∧ 0 ≤ (m.1 72 18).toInt ∧ (m.1 72 18).toInt ≤ 9999 ∧ x1.toInt < ((sm_w1 m 72 0 (0 : Int32)).1 72 6).toInt by omega) ki2) (fun r27 kr75 => ?_)
                      replace kr75 : (0 ≤ r27.toInt) ∧ (r27.toInt ≤ 1) := kr75
                      refine s_bd (zX12_flag r27 (sm_w1 m 72 0 (0 : Int32)) (show 0 ≤ r27.toInt ∧ r27.toInt ≤ 1 by omega) ki2) (fun r29 kr76 => ?_)
                      replace kr76 : (0 ≤ r29.toInt) ∧ (r29.toInt ≤ 1) ∧ (r29.toInt = r27.toInt) := kr76
                      have kf77 : Fr wX12_hedge m (sm_w1 m 72 0 (0 : Int32)) := Fr.w Fr.refl rfl
                      exact s_ret ⟨(show ((-1 : Int) ≤ r29.toInt) ∧ (r29.toInt ≤ 20) by omega), ki2, kf77⟩
theorem zX12_isCorner (x1 : Int32) (m : sm_S) (hI : zI m) : Sf (fun r => (0 ≤ r.toInt) ∧ (r.toInt ≤ 1) ∧ ((r.toInt = 0 ∧ (x1.toInt < 0 ∨ (m.1 72 3).toInt ≤ x1.toInt)) ∨ (r.toInt = 1 ∧ 0 ≤ x1.toInt ∧ x1.toInt < (m.1 72 3).toInt))) (fX12_isCorner x1 m) := by
  have hfu := fuE
  unfold fX12_isCorner
  have kc1 : (x1).toInt64.toInt = (x1).toInt := Int32.toInt_toInt64 _
  have kc2 := LL0
  have kc3 : 0 ≤ (m.1 72 3).toInt ∧ (m.1 72 3).toInt ≤ 10 := hI.1 72 3
  have kc4 : ((m.1 72 3) - (1 : Int32)).toInt = ((m.1 72 3)).toInt - 1 := a_subl L1 (by omega) (by omega)
  have kc5 : (((m.1 72 3) - (1 : Int32))).toInt64.toInt = (((m.1 72 3) - (1 : Int32))).toInt := Int32.toInt_toInt64 _
  refine s_bd (zX12_in (x1).toInt64 (0 : Int64) (((m.1 72 3) - (1 : Int32))).toInt64 m (show (-1 : Int) ≤ (0 : Int64).toInt ∧ (0 : Int64).toInt ≤ 48 ∧ (-1 : Int) ≤ (((m.1 72 3) - (1 : Int32))).toInt64.toInt ∧ (((m.1 72 3) - (1 : Int32))).toInt64.toInt ≤ 9999 by omega) hI) (fun r2 kr6 => ?_)
  replace kr6 : (0 ≤ r2.toInt) ∧ (r2.toInt ≤ 1) ∧ ((r2.toInt = 0 ∧ ((x1).toInt64.toInt < (0 : Int64).toInt ∨ (((m.1 72 3) - (1 : Int32))).toInt64.toInt < (x1).toInt64.toInt)) ∨ (r2.toInt = 1 ∧ (0 : Int64).toInt ≤ (x1).toInt64.toInt ∧ (x1).toInt64.toInt ≤ (((m.1 72 3) - (1 : Int32))).toInt64.toInt)) := kr6
  refine s_nb (show (r2).toInt = 0 ∨ (r2).toInt = 1 by omega) ?_
  exact s_ret (show (0 ≤ r2.toInt) ∧ (r2.toInt ≤ 1) ∧ ((r2.toInt = 0 ∧ (x1.toInt < 0 ∨ (m.1 72 3).toInt ≤ x1.toInt)) ∨ (r2.toInt = 1 ∧ 0 ≤ x1.toInt ∧ x1.toInt < (m.1 72 3).toInt)) by omega)
theorem zX12_grassOf (x1 : Int32) (x2 : Int32) (m : sm_S) (hp : 0 ≤ x1.toInt ∧ x1.toInt ≤ 9 ∧ 0 ≤ x2.toInt ∧ x2.toInt ≤ 9) (hI : zI m) : Sf (fun r => (0 ≤ r.toInt) ∧ (r.toInt ≤ 36)) (fX12_grassOf x1 x2 m) := by
  have hfu := fuE
  unfold fX12_grassOf
  have kx1 : 0 ≤ (x1).toInt ∧ (x1).toInt < (10 : Int) := by omega
  refine s_ix kx1 ?_
  have kx2 : 0 ≤ (x2).toInt ∧ (x2).toInt < (10 : Int) := by omega
  refine s_ix kx2 ?_
  refine s_ix kx1 ?_
  refine s_ix kx2 ?_
  have kc3 := L2
  have kc4 := L0
  have kc5 : 0 ≤ (m.1 74 (x1).toNatClampNeg).toInt ∧ (m.1 74 (x1).toNatClampNeg).toInt ≤ 9 := hI.1 74 (x1).toNatClampNeg
  have kc6 : 0 ≤ (m.1 74 (x2).toNatClampNeg).toInt ∧ (m.1 74 (x2).toNatClampNeg).toInt ≤ 9 := hI.1 74 (x2).toNatClampNeg
  have kc7 : ((m.1 74 (x1).toNatClampNeg) - (m.1 74 (x2).toNatClampNeg)).toInt = ((m.1 74 (x1).toNatClampNeg)).toInt - ((m.1 74 (x2).toNatClampNeg)).toInt := a_sub (by omega) (by omega)
  have kc8 : ((0 : Int32) - ((m.1 74 (x1).toNatClampNeg) - (m.1 74 (x2).toNatClampNeg))).toInt = ((0 : Int32)).toInt - (((m.1 74 (x1).toNatClampNeg) - (m.1 74 (x2).toNatClampNeg))).toInt := a_sub (by omega) (by omega)
  have kc9 : (((0 : Int32)).toInt ≤ (((m.1 74 (x1).toNatClampNeg) - (m.1 74 (x2).toNatClampNeg))).toInt ∧ (if (0 : Int32) ≤ ((m.1 74 (x1).toNatClampNeg) - (m.1 74 (x2).toNatClampNeg)) then ((m.1 74 (x1).toNatClampNeg) - (m.1 74 (x2).toNatClampNeg)) else ((0 : Int32) - ((m.1 74 (x1).toNatClampNeg) - (m.1 74 (x2).toNatClampNeg)))).toInt = (((m.1 74 (x1).toNatClampNeg) - (m.1 74 (x2).toNatClampNeg))).toInt) ∨ ((((m.1 74 (x1).toNatClampNeg) - (m.1 74 (x2).toNatClampNeg))).toInt < ((0 : Int32)).toInt ∧ (if (0 : Int32) ≤ ((m.1 74 (x1).toNatClampNeg) - (m.1 74 (x2).toNatClampNeg)) then ((m.1 74 (x1).toNatClampNeg) - (m.1 74 (x2).toNatClampNeg)) else ((0 : Int32) - ((m.1 74 (x1).toNatClampNeg) - (m.1 74 (x2).toNatClampNeg)))).toInt = (((0 : Int32) - ((m.1 74 (x1).toNatClampNeg) - (m.1 74 (x2).toNatClampNeg)))).toInt) := a_ile
  have kc10 : 0 ≤ (m.1 75 (x1).toNatClampNeg).toInt ∧ (m.1 75 (x1).toNatClampNeg).toInt ≤ 9 := hI.1 75 (x1).toNatClampNeg
  have kc11 : 0 ≤ (m.1 75 (x2).toNatClampNeg).toInt ∧ (m.1 75 (x2).toNatClampNeg).toInt ≤ 9 := hI.1 75 (x2).toNatClampNeg
  have kc12 : ((m.1 75 (x1).toNatClampNeg) - (m.1 75 (x2).toNatClampNeg)).toInt = ((m.1 75 (x1).toNatClampNeg)).toInt - ((m.1 75 (x2).toNatClampNeg)).toInt := a_sub (by omega) (by omega)
  have kc13 : ((0 : Int32) - ((m.1 75 (x1).toNatClampNeg) - (m.1 75 (x2).toNatClampNeg))).toInt = ((0 : Int32)).toInt - (((m.1 75 (x1).toNatClampNeg) - (m.1 75 (x2).toNatClampNeg))).toInt := a_sub (by omega) (by omega)
  have kc14 : (((0 : Int32)).toInt ≤ (((m.1 75 (x1).toNatClampNeg) - (m.1 75 (x2).toNatClampNeg))).toInt ∧ (if (0 : Int32) ≤ ((m.1 75 (x1).toNatClampNeg) - (m.1 75 (x2).toNatClampNeg)) then ((m.1 75 (x1).toNatClampNeg) - (m.1 75 (x2).toNatClampNeg)) else ((0 : Int32) - ((m.1 75 (x1).toNatClampNeg) - (m.1 75 (x2).toNatClampNeg)))).toInt = (((m.1 75 (x1).toNatClampNeg) - (m.1 75 (x2).toNatClampNeg))).toInt) ∨ ((((m.1 75 (x1).toNatClampNeg) - (m.1 75 (x2).toNatClampNeg))).toInt < ((0 : Int32)).toInt ∧ (if (0 : Int32) ≤ ((m.1 75 (x1).toNatClampNeg) - (m.1 75 (x2).toNatClampNeg)) then ((m.1 75 (x1).toNatClampNeg) - (m.1 75 (x2).toNatClampNeg)) else ((0 : Int32) - ((m.1 75 (x1).toNatClampNeg) - (m.1 75 (x2).toNatClampNeg)))).toInt = (((0 : Int32) - ((m.1 75 (x1).toNatClampNeg) - (m.1 75 (x2).toNatClampNeg)))).toInt) := a_ile
  have kc15 : ((if (0 : Int32) ≤ ((m.1 74 (x1).toNatClampNeg) - (m.1 74 (x2).toNatClampNeg)) then ((m.1 74 (x1).toNatClampNeg) - (m.1 74 (x2).toNatClampNeg)) else ((0 : Int32) - ((m.1 74 (x1).toNatClampNeg) - (m.1 74 (x2).toNatClampNeg)))) + (if (0 : Int32) ≤ ((m.1 75 (x1).toNatClampNeg) - (m.1 75 (x2).toNatClampNeg)) then ((m.1 75 (x1).toNatClampNeg) - (m.1 75 (x2).toNatClampNeg)) else ((0 : Int32) - ((m.1 75 (x1).toNatClampNeg) - (m.1 75 (x2).toNatClampNeg))))).toInt = ((if (0 : Int32) ≤ ((m.1 74 (x1).toNatClampNeg) - (m.1 74 (x2).toNatClampNeg)) then ((m.1 74 (x1).toNatClampNeg) - (m.1 74 (x2).toNatClampNeg)) else ((0 : Int32) - ((m.1 74 (x1).toNatClampNeg) - (m.1 74 (x2).toNatClampNeg))))).toInt + ((if (0 : Int32) ≤ ((m.1 75 (x1).toNatClampNeg) - (m.1 75 (x2).toNatClampNeg)) then ((m.1 75 (x1).toNatClampNeg) - (m.1 75 (x2).toNatClampNeg)) else ((0 : Int32) - ((m.1 75 (x1).toNatClampNeg) - (m.1 75 (x2).toNatClampNeg))))).toInt := a_add (by omega) (by omega)
  have kc16 : ((2 : Int32) * ((if (0 : Int32) ≤ ((m.1 74 (x1).toNatClampNeg) - (m.1 74 (x2).toNatClampNeg)) then ((m.1 74 (x1).toNatClampNeg) - (m.1 74 (x2).toNatClampNeg)) else ((0 : Int32) - ((m.1 74 (x1).toNatClampNeg) - (m.1 74 (x2).toNatClampNeg)))) + (if (0 : Int32) ≤ ((m.1 75 (x1).toNatClampNeg) - (m.1 75 (x2).toNatClampNeg)) then ((m.1 75 (x1).toNatClampNeg) - (m.1 75 (x2).toNatClampNeg)) else ((0 : Int32) - ((m.1 75 (x1).toNatClampNeg) - (m.1 75 (x2).toNatClampNeg)))))).toInt = 2 * (((if (0 : Int32) ≤ ((m.1 74 (x1).toNatClampNeg) - (m.1 74 (x2).toNatClampNeg)) then ((m.1 74 (x1).toNatClampNeg) - (m.1 74 (x2).toNatClampNeg)) else ((0 : Int32) - ((m.1 74 (x1).toNatClampNeg) - (m.1 74 (x2).toNatClampNeg)))) + (if (0 : Int32) ≤ ((m.1 75 (x1).toNatClampNeg) - (m.1 75 (x2).toNatClampNeg)) then ((m.1 75 (x1).toNatClampNeg) - (m.1 75 (x2).toNatClampNeg)) else ((0 : Int32) - ((m.1 75 (x1).toNatClampNeg) - (m.1 75 (x2).toNatClampNeg)))))).toInt := a_mul L2 rfl (by omega) (by omega)
  exact s_ret (show (0 ≤ ((2 : Int32) * ((if (0 : Int32) ≤ ((m.1 74 (x1).toNatClampNeg) - (m.1 74 (x2).toNatClampNeg)) then ((m.1 74 (x1).toNatClampNeg) - (m.1 74 (x2).toNatClampNeg)) else ((0 : Int32) - ((m.1 74 (x1).toNatClampNeg) - (m.1 74 (x2).toNatClampNeg)))) + (if (0 : Int32) ≤ ((m.1 75 (x1).toNatClampNeg) - (m.1 75 (x2).toNatClampNeg)) then ((m.1 75 (x1).toNatClampNeg) - (m.1 75 (x2).toNatClampNeg)) else ((0 : Int32) - ((m.1 75 (x1).toNatClampNeg) - (m.1 75 (x2).toNatClampNeg)))))).toInt) ∧ (((2 : Int32) * ((if (0 : Int32) ≤ ((m.1 74 (x1).toNatClampNeg) - (m.1 74 (x2).toNatClampNeg)) then ((m.1 74 (x1).toNatClampNeg) - (m.1 74 (x2).toNatClampNeg)) else ((0 : Int32) - ((m.1 74 (x1).toNatClampNeg) - (m.1 74 (x2).toNatClampNeg)))) + (if (0 : Int32) ≤ ((m.1 75 (x1).toNatClampNeg) - (m.1 75 (x2).toNatClampNeg)) then ((m.1 75 (x1).toNatClampNeg) - (m.1 75 (x2).toNatClampNeg)) else ((0 : Int32) - ((m.1 75 (x1).toNatClampNeg) - (m.1 75 (x2).toNatClampNeg)))))).toInt ≤ 36) by omega)
theorem zX12_grass (x1 : Int32) (x2 : Int32) (m : sm_S) (hI : zI m) : Sf (fun r => (((-1 : Int) ≤ r.1.toInt) ∧ (r.1.toInt ≤ 36)) ∧ zI r.2 ∧ Fr wX12_grass m r.2) (fX12_grass x1 x2 m) := by
  have hfu := fuE
  unfold fX12_grass
  have kc1 := L0
  have ki2 : zI (sm_w1 m 72 0 (0 : Int32)) := zI.w hI rfl (show 0 ≤ ((0 : Int32)).toInt ∧ ((0 : Int32)).toInt ≤ 1 by omega)
  refine s_bd (zX12_isCorner x1 (sm_w1 m 72 0 (0 : Int32)) ki2) (fun r2 kr3 => ?_)
  replace kr3 : (0 ≤ r2.toInt) ∧ (r2.toInt ≤ 1) ∧ ((r2.toInt = 0 ∧ (x1.toInt < 0 ∨ ((sm_w1 m 72 0 (0 : Int32)).1 72 3).toInt ≤ x1.toInt)) ∨ (r2.toInt = 1 ∧ 0 ≤ x1.toInt ∧ x1.toInt < ((sm_w1 m 72 0 (0 : Int32)).1 72 3).toInt)) := kr3
  have kc4 : 0 ≤ ((sm_w1 m 72 0 (0 : Int32)).1 72 3).toInt ∧ ((sm_w1 m 72 0 (0 : Int32)).1 72 3).toInt ≤ 10 := ki2.1 72 3
  have kc5 : ((sm_w1 m 72 0 (0 : Int32)).1 72 3).toInt = (m.1 72 3).toInt := rfl
  have kc6 : 0 ≤ (m.1 72 3).toInt ∧ (m.1 72 3).toInt ≤ 10 := hI.1 72 3
  refine s_eq (fun kh7 => ?_) (fun kh7 => ?_)
  · have kc8 := Ln1
    have kf9 : Fr wX12_grass m (sm_w1 m 72 0 (0 : Int32)) := Fr.w Fr.refl rfl
    exact s_ret ⟨(show ((-1 : Int) ≤ (-1 : Int32).toInt) ∧ ((-1 : Int32).toInt ≤ 36) by omega), ki2, kf9⟩
  · refine s_bd (zX12_isCorner x2 (sm_w1 m 72 0 (0 : Int32)) ki2) (fun r4 kr10 => ?_)
    replace kr10 : (0 ≤ r4.toInt) ∧ (r4.toInt ≤ 1) ∧ ((r4.toInt = 0 ∧ (x2.toInt < 0 ∨ ((sm_w1 m 72 0 (0 : Int32)).1 72 3).toInt ≤ x2.toInt)) ∨ (r4.toInt = 1 ∧ 0 ≤ x2.toInt ∧ x2.toInt < ((sm_w1 m 72 0 (0 : Int32)).1 72 3).toInt)) := kr10
    refine s_eq (fun kh11 => ?_) (fun kh11 => ?_)
    · have kc12 := Ln1
      have kf13 : Fr wX12_grass m (sm_w1 m 72 0 (0 : Int32)) := Fr.w Fr.refl rfl
      exact s_ret ⟨(show ((-1 : Int) ≤ (-1 : Int32).toInt) ∧ ((-1 : Int32).toInt ≤ 36) by omega), ki2, kf13⟩
    · refine s_bd (zX12_grassOf x1 x2 (sm_w1 m 72 0 (0 : Int32)) (show 0 ≤ x1.toInt ∧ x1.toInt ≤ 9 ∧ 0 ≤ x2.toInt ∧ x2.toInt ≤ 9 by omega) ki2) (fun r6 kr14 => ?_)
      replace kr14 : (0 ≤ r6.toInt) ∧ (r6.toInt ≤ 36) := kr14
      have kf15 : Fr wX12_grass m (sm_w1 m 72 0 (0 : Int32)) := Fr.w Fr.refl rfl
      exact s_ret ⟨(show ((-1 : Int) ≤ r6.toInt) ∧ (r6.toInt ≤ 36) by omega), ki2, kf15⟩
