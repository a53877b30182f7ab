theorem zX12_readsHedge (m : sm_S) (hI : zI m) : Sf (fun r => ((0 ≤ r.1.toInt) ∧ (r.1.toInt ≤ 1) ∧ ((m.1 72 22).toInt ≤ (r.2.1 72 22).toInt)) ∧ zI r.2 ∧ Fr wX12_readsHedge m r.2) (fX12_readsHedge m) := by
  have hfu := fuE
  unfold fX12_readsHedge
  have kc1 : 0 ≤ (m.1 72 25).toInt ∧ (m.1 72 25).toInt ≤ 14 := hI.1 72 25
  have kc2 : 0 ≤ (m.1 72 6).toInt ∧ (m.1 72 6).toInt ≤ 14 := hI.1 72 6
  have kc3 := zI.le hI
  have kc4 := L14
  refine s_eq (fun kh5 => ?_) (fun kh5 => ?_)
  · have kc6 := L0
    have kc7 : 0 ≤ (m.1 72 22).toInt ∧ (m.1 72 22).toInt ≤ 80 := hI.1 72 22
    exact s_ret ⟨(show (0 ≤ (0 : Int32).toInt) ∧ ((0 : Int32).toInt ≤ 1) ∧ ((m.1 72 22).toInt ≤ (m.1 72 22).toInt) by omega), hI, Fr.refl⟩
  · have kc8 := Ln1
    refine s_bd (zX12_cornerBut (-1 : Int32) m (show (-1 : Int) ≤ (-1 : Int32).toInt ∧ (-1 : Int32).toInt ≤ 9 by omega) hI) (fun r2 kr9 => ?_)
    obtain ⟨kp10, ki11, kf12⟩ := kr9
    replace kp10 : ((-1 : Int) ≤ r2.1.toInt) ∧ (r2.1.toInt ≤ 9) ∧ ((r2.1.toInt < 0 ∧ (r2.2.1 72 22).toInt = (m.1 72 22).toInt) ∨ (0 ≤ r2.1.toInt ∧ (m.1 72 22).toInt < (m.1 72 23).toInt ∧ (r2.2.1 72 22).toInt = (m.1 72 22).toInt + 1)) := kp10
    have kc13 : 0 ≤ (r2.2.1 72 22).toInt ∧ (r2.2.1 72 22).toInt ≤ 80 := ki11.1 72 22
    have kc14 : 0 ≤ (m.1 72 22).toInt ∧ (m.1 72 22).toInt ≤ 80 := hI.1 72 22
    have kc15 : 0 ≤ (m.1 72 23).toInt ∧ (m.1 72 23).toInt ≤ 76 := hI.1 72 23
    have kc16 : (-1 : Int) ≤ (r2.2.1 76 ((m.1 72 25)).toNatClampNeg).toInt ∧ (r2.2.1 76 ((m.1 72 25)).toNatClampNeg).toInt ≤ 9 := ki11.1 76 ((m.1 72 25)).toNatClampNeg
    have kc17 : 0 ≤ (r2.2.1 72 6).toInt ∧ (r2.2.1 72 6).toInt ≤ 14 := ki11.1 72 6
    have kc18 : 0 ≤ (r2.2.1 72 25).toInt ∧ (r2.2.1 72 25).toInt ≤ 14 := ki11.1 72 25
    have kc19 := zI.le ki11
    have kc20 : (r2.2.1 72 25).toInt = (m.1 72 25).toInt := congrArg Int32.toInt (kf12 72 25 rfl)
    have kc21 : (r2.2.1 72 6).toInt = (m.1 72 6).toInt := congrArg Int32.toInt (kf12 72 6 rfl)
    have kc22 := zI.pf76 ki11 (m.1 72 25)
    have kc23 : (r2.2.1 76 ((m.1 72 25)).toNatClampNeg).toInt = (m.1 76 ((m.1 72 25)).toNatClampNeg).toInt := congrArg Int32.toInt (kf12 76 ((m.1 72 25)).toNatClampNeg rfl)
    have kc24 : (-1 : Int) ≤ (m.1 76 ((m.1 72 25)).toNatClampNeg).toInt ∧ (m.1 76 ((m.1 72 25)).toNatClampNeg).toInt ≤ 9 := hI.1 76 ((m.1 72 25)).toNatClampNeg
    have kc25 := zI.pf76 hI (m.1 72 25)
    have kc26 : (-1 : Int) ≤ (r2.2.1 77 ((m.1 72 25)).toNatClampNeg).toInt ∧ (r2.2.1 77 ((m.1 72 25)).toNatClampNeg).toInt ≤ 9 := ki11.1 77 ((m.1 72 25)).toNatClampNeg
    have kc27 := zI.pf77 ki11 (m.1 72 25)
    have kc28 : (r2.2.1 77 ((m.1 72 25)).toNatClampNeg).toInt = (m.1 77 ((m.1 72 25)).toNatClampNeg).toInt := congrArg Int32.toInt (kf12 77 ((m.1 72 25)).toNatClampNeg rfl)
    have kc29 : (-1 : Int) ≤ (m.1 77 ((m.1 72 25)).toNatClampNeg).toInt ∧ (m.1 77 ((m.1 72 25)).toNatClampNeg).toInt ≤ 9 := hI.1 77 ((m.1 72 25)).toNatClampNeg
    have kc30 := zI.pf77 hI (m.1 72 25)
    have kc31 : (-1 : Int) ≤ (r2.2.1 78 ((m.1 72 25)).toNatClampNeg).toInt ∧ (r2.2.1 78 ((m.1 72 25)).toNatClampNeg).toInt ≤ 20 := ki11.1 78 ((m.1 72 25)).toNatClampNeg
    have kc32 := zI.pf78 ki11 (m.1 72 25)
    have kc33 : (r2.2.1 78 ((m.1 72 25)).toNatClampNeg).toInt = (m.1 78 ((m.1 72 25)).toNatClampNeg).toInt := congrArg Int32.toInt (kf12 78 ((m.1 72 25)).toNatClampNeg rfl)
    have kc34 : (-1 : Int) ≤ (m.1 78 ((m.1 72 25)).toNatClampNeg).toInt ∧ (m.1 78 ((m.1 72 25)).toNatClampNeg).toInt ≤ 20 := hI.1 78 ((m.1 72 25)).toNatClampNeg
    have kc35 := zI.pf78 hI (m.1 72 25)
    have kc36 : (-1 : Int) ≤ (r2.2.1 82 ((m.1 72 25)).toNatClampNeg).toInt ∧ (r2.2.1 82 ((m.1 72 25)).toNatClampNeg).toInt ≤ 9 := ki11.1 82 ((m.1 72 25)).toNatClampNeg
    have kc37 := zI.pf82 ki11 (m.1 72 25)
    have kc38 : (r2.2.1 82 ((m.1 72 25)).toNatClampNeg).toInt = (m.1 82 ((m.1 72 25)).toNatClampNeg).toInt := congrArg Int32.toInt (kf12 82 ((m.1 72 25)).toNatClampNeg rfl)
    have kc39 : (-1 : Int) ≤ (m.1 82 ((m.1 72 25)).toNatClampNeg).toInt ∧ (m.1 82 ((m.1 72 25)).toNatClampNeg).toInt ≤ 9 := hI.1 82 ((m.1 72 25)).toNatClampNeg
    have kc40 := zI.pf82 hI (m.1 72 25)
    have kx41 : 0 ≤ ((m.1 72 25)).toInt ∧ ((m.1 72 25)).toInt < (14 : Int) := by omega
    refine s_ix kx41 ?_
    refine s_ix kx41 ?_
    have kc42 := L0
    have ki43 : zI (sm_w1 r2.2 76 ((m.1 72 25)).toNatClampNeg r2.1) := zI.w76 ki11 (show (-1 : Int) ≤ (r2.1).toInt ∧ (r2.1).toInt ≤ 9 by omega) (show 0 ≤ (r2.1).toInt ∨ (r2.2.1 72 25).toInt ≤ ((m.1 72 25)).toInt by omega) (show 0 ≤ ((m.1 72 25)).toInt by omega)
    have kc44 : (-1 : Int) ≤ ((sm_w1 r2.2 76 ((m.1 72 25)).toNatClampNeg r2.1).1 76 ((m.1 72 25)).toNatClampNeg).toInt ∧ ((sm_w1 r2.2 76 ((m.1 72 25)).toNatClampNeg r2.1).1 76 ((m.1 72 25)).toNatClampNeg).toInt ≤ 9 := ki43.1 76 ((m.1 72 25)).toNatClampNeg
    have kc45 : 0 ≤ ((sm_w1 r2.2 76 ((m.1 72 25)).toNatClampNeg r2.1).1 72 6).toInt ∧ ((sm_w1 r2.2 76 ((m.1 72 25)).toNatClampNeg r2.1).1 72 6).toInt ≤ 14 := ki43.1 72 6
    have kc46 : 0 ≤ ((sm_w1 r2.2 76 ((m.1 72 25)).toNatClampNeg r2.1).1 72 25).toInt ∧ ((sm_w1 r2.2 76 ((m.1 72 25)).toNatClampNeg r2.1).1 72 25).toInt ≤ 14 := ki43.1 72 25
    have kc47 := zI.le ki43
    have kc48 : ((sm_w1 r2.2 76 ((m.1 72 25)).toNatClampNeg r2.1).1 72 25).toInt = (r2.2.1 72 25).toInt := congrArg Int32.toInt (r_cell (by decide))
    have kc49 : ((sm_w1 r2.2 76 ((m.1 72 25)).toNatClampNeg r2.1).1 72 6).toInt = (r2.2.1 72 6).toInt := congrArg Int32.toInt (r_cell (by decide))
    have kc50 := zI.pf76 ki43 (m.1 72 25)
    have kc51 : ((sm_w1 r2.2 76 ((m.1 72 25)).toNatClampNeg r2.1).1 76 ((m.1 72 25)).toNatClampNeg).toInt = (r2.1).toInt := congrArg Int32.toInt r_hit
    refine s_le (fun kh52 => ?_) (fun kh52 => ?_)
    · refine s_ix kx41 ?_
      refine s_bd (zX12_cornerBut ((sm_w1 r2.2 76 ((m.1 72 25)).toNatClampNeg r2.1).1 76 ((m.1 72 25)).toNatClampNeg) (sm_w1 r2.2 76 ((m.1 72 25)).toNatClampNeg r2.1) (show (-1 : Int) ≤ ((sm_w1 r2.2 76 ((m.1 72 25)).toNatClampNeg r2.1).1 76 ((m.1 72 25)).toNatClampNeg).toInt ∧ ((sm_w1 r2.2 76 ((m.1 72 25)).toNatClampNeg r2.1).1 76 ((m.1 72 25)).toNatClampNeg).toInt ≤ 9 by omega) ki43) (fun r7 kr53 => ?_)
      obtain ⟨kp54, ki55, kf56⟩ := kr53
      replace kp54 : ((-1 : Int) ≤ r7.1.toInt) ∧ (r7.1.toInt ≤ 9) ∧ ((r7.1.toInt < 0 ∧ (r7.2.1 72 22).toInt = ((sm_w1 r2.2 76 ((m.1 72 25)).toNatClampNeg r2.1).1 72 22).toInt) ∨ (0 ≤ r7.1.toInt ∧ ((sm_w1 r2.2 76 ((m.1 72 25)).toNatClampNeg r2.1).1 72 22).toInt < ((sm_w1 r2.2 76 ((m.1 72 25)).toNatClampNeg r2.1).1 72 23).toInt ∧ (r7.2.1 72 22).toInt = ((sm_w1 r2.2 76 ((m.1 72 25)).toNatClampNeg r2.1).1 72 22).toInt + 1)) := kp54
      have kc57 : 0 ≤ (r7.2.1 72 22).toInt ∧ (r7.2.1 72 22).toInt ≤ 80 := ki55.1 72 22
      have kc58 : 0 ≤ ((sm_w1 r2.2 76 ((m.1 72 25)).toNatClampNeg r2.1).1 72 22).toInt ∧ ((sm_w1 r2.2 76 ((m.1 72 25)).toNatClampNeg r2.1).1 72 22).toInt ≤ 80 := ki43.1 72 22
      have kc59 : ((sm_w1 r2.2 76 ((m.1 72 25)).toNatClampNeg r2.1).1 72 22).toInt = (r2.2.1 72 22).toInt := congrArg Int32.toInt (r_cell (by decide))
      have kc60 : 0 ≤ ((sm_w1 r2.2 76 ((m.1 72 25)).toNatClampNeg r2.1).1 72 23).toInt ∧ ((sm_w1 r2.2 76 ((m.1 72 25)).toNatClampNeg r2.1).1 72 23).toInt ≤ 76 := ki43.1 72 23
      have kc61 : ((sm_w1 r2.2 76 ((m.1 72 25)).toNatClampNeg r2.1).1 72 23).toInt = (r2.2.1 72 23).toInt := congrArg Int32.toInt (r_cell (by decide))
      have kc62 : 0 ≤ (r2.2.1 72 23).toInt ∧ (r2.2.1 72 23).toInt ≤ 76 := ki11.1 72 23
      have kc63 : (r2.2.1 72 23).toInt = (m.1 72 23).toInt := congrArg Int32.toInt (kf12 72 23 rfl)
      have kc64 : (-1 : Int) ≤ (r7.2.1 76 ((m.1 72 25)).toNatClampNeg).toInt ∧ (r7.2.1 76 ((m.1 72 25)).toNatClampNeg).toInt ≤ 9 := ki55.1 76 ((m.1 72 25)).toNatClampNeg
      have kc65 : 0 ≤ (r7.2.1 72 6).toInt ∧ (r7.2.1 72 6).toInt ≤ 14 := ki55.1 72 6
      have kc66 : 0 ≤ (r7.2.1 72 25).toInt ∧ (r7.2.1 72 25).toInt ≤ 14 := ki55.1 72 25
      have kc67 := zI.le ki55
      have kc68 : (r7.2.1 72 25).toInt = ((sm_w1 r2.2 76 ((m.1 72 25)).toNatClampNeg r2.1).1 72 25).toInt := congrArg Int32.toInt (kf56 72 25 rfl)
      have kc69 : (r7.2.1 72 6).toInt = ((sm_w1 r2.2 76 ((m.1 72 25)).toNatClampNeg r2.1).1 72 6).toInt := congrArg Int32.toInt (kf56 72 6 rfl)
      have kc70 := zI.pf76 ki55 (m.1 72 25)
      have kc71 : (r7.2.1 76 ((m.1 72 25)).toNatClampNeg).toInt = ((sm_w1 r2.2 76 ((m.1 72 25)).toNatClampNeg r2.1).1 76 ((m.1 72 25)).toNatClampNeg).toInt := congrArg Int32.toInt (kf56 76 ((m.1 72 25)).toNatClampNeg rfl)
      have kc72 : (-1 : Int) ≤ (r7.2.1 77 ((m.1 72 25)).toNatClampNeg).toInt ∧ (r7.2.1 77 ((m.1 72 25)).toNatClampNeg).toInt ≤ 9 := ki55.1 77 ((m.1 72 25)).toNatClampNeg
      have kc73 := zI.pf77 ki55 (m.1 72 25)
      have kc74 : (r7.2.1 77 ((m.1 72 25)).toNatClampNeg).toInt = ((sm_w1 r2.2 76 ((m.1 72 25)).toNatClampNeg r2.1).1 77 ((m.1 72 25)).toNatClampNeg).toInt := congrArg Int32.toInt (kf56 77 ((m.1 72 25)).toNatClampNeg rfl)
      have kc75 : (-1 : Int) ≤ ((sm_w1 r2.2 76 ((m.1 72 25)).toNatClampNeg r2.1).1 77 ((m.1 72 25)).toNatClampNeg).toInt ∧ ((sm_w1 r2.2 76 ((m.1 72 25)).toNatClampNeg r2.1).1 77 ((m.1 72 25)).toNatClampNeg).toInt ≤ 9 := ki43.1 77 ((m.1 72 25)).toNatClampNeg
      have kc76 := zI.pf77 ki43 (m.1 72 25)
      have kc77 : ((sm_w1 r2.2 76 ((m.1 72 25)).toNatClampNeg r2.1).1 77 ((m.1 72 25)).toNatClampNeg).toInt = (r2.2.1 77 ((m.1 72 25)).toNatClampNeg).toInt := congrArg Int32.toInt (r_cell (by decide))
      have kc78 : (-1 : Int) ≤ (r7.2.1 78 ((m.1 72 25)).toNatClampNeg).toInt ∧ (r7.2.1 78 ((m.1 72 25)).toNatClampNeg).toInt ≤ 20 := ki55.1 78 ((m.1 72 25)).toNatClampNeg
      have kc79 := zI.pf78 ki55 (m.1 72 25)
      have kc80 : (r7.2.1 78 ((m.1 72 25)).toNatClampNeg).toInt = ((sm_w1 r2.2 76 ((m.1 72 25)).toNatClampNeg r2.1).1 78 ((m.1 72 25)).toNatClampNeg).toInt := congrArg Int32.toInt (kf56 78 ((m.1 72 25)).toNatClampNeg rfl)
      have kc81 : (-1 : Int) ≤ ((sm_w1 r2.2 76 ((m.1 72 25)).toNatClampNeg r2.1).1 78 ((m.1 72 25)).toNatClampNeg).toInt ∧ ((sm_w1 r2.2 76 ((m.1 72 25)).toNatClampNeg r2.1).1 78 ((m.1 72 25)).toNatClampNeg).toInt ≤ 20 := ki43.1 78 ((m.1 72 25)).toNatClampNeg
      have kc82 := zI.pf78 ki43 (m.1 72 25)
      have kc83 : ((sm_w1 r2.2 76 ((m.1 72 25)).toNatClampNeg r2.1).1 78 ((m.1 72 25)).toNatClampNeg).toInt = (r2.2.1 78 ((m.1 72 25)).toNatClampNeg).toInt := congrArg Int32.toInt (r_cell (by decide))
      have kc84 : (-1 : Int) ≤ (r7.2.1 82 ((m.1 72 25)).toNatClampNeg).toInt ∧ (r7.2.1 82 ((m.1 72 25)).toNatClampNeg).toInt ≤ 9 := ki55.1 82 ((m.1 72 25)).toNatClampNeg
      have kc85 := zI.pf82 ki55 (m.1 72 25)
      have kc86 : (r7.2.1 82 ((m.1 72 25)).toNatClampNeg).toInt = ((sm_w1 r2.2 76 ((m.1 72 25)).toNatClampNeg r2.1).1 82 ((m.1 72 25)).toNatClampNeg).toInt := congrArg Int32.toInt (kf56 82 ((m.1 72 25)).toNatClampNeg rfl)
      have kc87 : (-1 : Int) ≤ ((sm_w1 r2.2 76 ((m.1 72 25)).toNatClampNeg r2.1).1 82 ((m.1 72 25)).toNatClampNeg).toInt ∧ ((sm_w1 r2.2 76 ((m.1 72 25)).toNatClampNeg r2.1).1 82 ((m.1 72 25)).toNatClampNeg).toInt ≤ 9 := ki43.1 82 ((m.1 72 25)).toNatClampNeg
      have kc88 := zI.pf82 ki43 (m.1 72 25)
      have kc89 : ((sm_w1 r2.2 76 ((m.1 72 25)).toNatClampNeg r2.1).1 82 ((m.1 72 25)).toNatClampNeg).toInt = (r2.2.1 82 ((m.1 72 25)).toNatClampNeg).toInt := congrArg Int32.toInt (r_cell (by decide))
      refine s_ix kx41 ?_
      refine s_ix kx41 ?_
      have ki90 : zI (sm_w1 r7.2 77 ((m.1 72 25)).toNatClampNeg r7.1) := zI.w77 ki55 (show (-1 : Int) ≤ (r7.1).toInt ∧ (r7.1).toInt ≤ 9 by omega) (show 0 ≤ (r7.1).toInt ∨ (r7.2.1 72 25).toInt ≤ ((m.1 72 25)).toInt by omega) (show 0 ≤ ((m.1 72 25)).toInt by omega)
      have kc91 : (-1 : Int) ≤ ((sm_w1 r7.2 77 ((m.1 72 25)).toNatClampNeg r7.1).1 77 ((m.1 72 25)).toNatClampNeg).toInt ∧ ((sm_w1 r7.2 77 ((m.1 72 25)).toNatClampNeg r7.1).1 77 ((m.1 72 25)).toNatClampNeg).toInt ≤ 9 := ki90.1 77 ((m.1 72 25)).toNatClampNeg
      have kc92 : 0 ≤ ((sm_w1 r7.2 77 ((m.1 72 25)).toNatClampNeg r7.1).1 72 6).toInt ∧ ((sm_w1 r7.2 77 ((m.1 72 25)).toNatClampNeg r7.1).1 72 6).toInt ≤ 14 := ki90.1 72 6
      have kc93 : 0 ≤ ((sm_w1 r7.2 77 ((m.1 72 25)).toNatClampNeg r7.1).1 72 25).toInt ∧ ((sm_w1 r7.2 77 ((m.1 72 25)).toNatClampNeg r7.1).1 72 25).toInt ≤ 14 := ki90.1 72 25
      have kc94 := zI.le ki90
      have kc95 : ((sm_w1 r7.2 77 ((m.1 72 25)).toNatClampNeg r7.1).1 72 25).toInt = (r7.2.1 72 25).toInt := congrArg Int32.toInt (r_cell (by decide))
      have kc96 : ((sm_w1 r7.2 77 ((m.1 72 25)).toNatClampNeg r7.1).1 72 6).toInt = (r7.2.1 72 6).toInt := congrArg Int32.toInt (r_cell (by decide))
      have kc97 := zI.pf77 ki90 (m.1 72 25)
      have kc98 : ((sm_w1 r7.2 77 ((m.1 72 25)).toNatClampNeg r7.1).1 77 ((m.1 72 25)).toNatClampNeg).toInt = (r7.1).toInt := congrArg Int32.toInt r_hit
      refine s_le (fun kh99 => ?_) (fun kh99 => ?_)
      · have kc100 := L1
        have kc101 := L20
        refine s_bd (zX12_number (1 : Int32) (20 : Int32) (sm_w1 r7.2 77 ((m.1 72 25)).toNatClampNeg r7.1) (show 1 ≤ (1 : Int32).toInt ∧ (1 : Int32).toInt ≤ 1 ∧ 20 ≤ (20 : Int32).toInt ∧ (20 : Int32).toInt ≤ 20 by omega) ki90) (fun r11 kr102 => ?_)
        obtain ⟨kp103, ki104, kf105⟩ := kr102
        replace kp103 : ((-1 : Int) ≤ r11.1.toInt) ∧ (r11.1.toInt ≤ 20) ∧ (((sm_w1 r7.2 77 ((m.1 72 25)).toNatClampNeg r7.1).1 72 22).toInt ≤ (r11.2.1 72 22).toInt) ∧ (r11.1.toInt < 0 ∨ 1 ≤ r11.1.toInt) := kp103
        have kc106 : 0 ≤ (r11.2.1 72 22).toInt ∧ (r11.2.1 72 22).toInt ≤ 80 := ki104.1 72 22
        have kc107 : 0 ≤ ((sm_w1 r7.2 77 ((m.1 72 25)).toNatClampNeg r7.1).1 72 22).toInt ∧ ((sm_w1 r7.2 77 ((m.1 72 25)).toNatClampNeg r7.1).1 72 22).toInt ≤ 80 := ki90.1 72 22
        have kc108 : ((sm_w1 r7.2 77 ((m.1 72 25)).toNatClampNeg r7.1).1 72 22).toInt = (r7.2.1 72 22).toInt := congrArg Int32.toInt (r_cell (by decide))
        have kc109 : (-1 : Int) ≤ (r11.2.1 76 ((m.1 72 25)).toNatClampNeg).toInt ∧ (r11.2.1 76 ((m.1 72 25)).toNatClampNeg).toInt ≤ 9 := ki104.1 76 ((m.1 72 25)).toNatClampNeg
        have kc110 : 0 ≤ (r11.2.1 72 6).toInt ∧ (r11.2.1 72 6).toInt ≤ 14 := ki104.1 72 6
        have kc111 : 0 ≤ (r11.2.1 72 25).toInt ∧ (r11.2.1 72 25).toInt ≤ 14 := ki104.1 72 25
        have kc112 := zI.le ki104
        have kc113 : (r11.2.1 72 25).toInt = ((sm_w1 r7.2 77 ((m.1 72 25)).toNatClampNeg r7.1).1 72 25).toInt := congrArg Int32.toInt (kf105 72 25 rfl)
        have kc114 : (r11.2.1 72 6).toInt = ((sm_w1 r7.2 77 ((m.1 72 25)).toNatClampNeg r7.1).1 72 6).toInt := congrArg Int32.toInt (kf105 72 6 rfl)
        have kc115 := zI.pf76 ki104 (m.1 72 25)
        have kc116 : (r11.2.1 76 ((m.1 72 25)).toNatClampNeg).toInt = ((sm_w1 r7.2 77 ((m.1 72 25)).toNatClampNeg r7.1).1 76 ((m.1 72 25)).toNatClampNeg).toInt := congrArg Int32.toInt (kf105 76 ((m.1 72 25)).toNatClampNeg rfl)
        have kc117 : (-1 : Int) ≤ ((sm_w1 r7.2 77 ((m.1 72 25)).toNatClampNeg r7.1).1 76 ((m.1 72 25)).toNatClampNeg).toInt ∧ ((sm_w1 r7.2 77 ((m.1 72 25)).toNatClampNeg r7.1).1 76 ((m.1 72 25)).toNatClampNeg).toInt ≤ 9 := ki90.1 76 ((m.1 72 25)).toNatClampNeg
        have kc118 := zI.pf76 ki90 (m.1 72 25)
        have kc119 : ((sm_w1 r7.2 77 ((m.1 72 25)).toNatClampNeg r7.1).1 76 ((m.1 72 25)).toNatClampNeg).toInt = (r7.2.1 76 ((m.1 72 25)).toNatClampNeg).toInt := congrArg Int32.toInt (r_cell (by decide))
        have kc120 : (-1 : Int) ≤ (r11.2.1 77 ((m.1 72 25)).toNatClampNeg).toInt ∧ (r11.2.1 77 ((m.1 72 25)).toNatClampNeg).toInt ≤ 9 := ki104.1 77 ((m.1 72 25)).toNatClampNeg
        have kc121 := zI.pf77 ki104 (m.1 72 25)
        have kc122 : (r11.2.1 77 ((m.1 72 25)).toNatClampNeg).toInt = ((sm_w1 r7.2 77 ((m.1 72 25)).toNatClampNeg r7.1).1 77 ((m.1 72 25)).toNatClampNeg).toInt := congrArg Int32.toInt (kf105 77 ((m.1 72 25)).toNatClampNeg rfl)
        have kc123 : (-1 : Int) ≤ (r11.2.1 78 ((m.1 72 25)).toNatClampNeg).toInt ∧ (r11.2.1 78 ((m.1 72 25)).toNatClampNeg).toInt ≤ 20 := ki104.1 78 ((m.1 72 25)).toNatClampNeg
        have kc124 := zI.pf78 ki104 (m.1 72 25)
        have kc125 : (r11.2.1 78 ((m.1 72 25)).toNatClampNeg).toInt = ((sm_w1 r7.2 77 ((m.1 72 25)).toNatClampNeg r7.1).1 78 ((m.1 72 25)).toNatClampNeg).toInt := congrArg Int32.toInt (kf105 78 ((m.1 72 25)).toNatClampNeg rfl)
        have kc126 : (-1 : Int) ≤ ((sm_w1 r7.2 77 ((m.1 72 25)).toNatClampNeg r7.1).1 78 ((m.1 72 25)).toNatClampNeg).toInt ∧ ((sm_w1 r7.2 77 ((m.1 72 25)).toNatClampNeg r7.1).1 78 ((m.1 72 25)).toNatClampNeg).toInt ≤ 20 := ki90.1 78 ((m.1 72 25)).toNatClampNeg
        have kc127 := zI.pf78 ki90 (m.1 72 25)
        have kc128 : ((sm_w1 r7.2 77 ((m.1 72 25)).toNatClampNeg r7.1).1 78 ((m.1 72 25)).toNatClampNeg).toInt = (r7.2.1 78 ((m.1 72 25)).toNatClampNeg).toInt := congrArg Int32.toInt (r_cell (by decide))
        have kc129 : (-1 : Int) ≤ (r11.2.1 82 ((m.1 72 25)).toNatClampNeg).toInt ∧ (r11.2.1 82 ((m.1 72 25)).toNatClampNeg).toInt ≤ 9 := ki104.1 82 ((m.1 72 25)).toNatClampNeg
        have kc130 := zI.pf82 ki104 (m.1 72 25)
        have kc131 : (r11.2.1 82 ((m.1 72 25)).toNatClampNeg).toInt = ((sm_w1 r7.2 77 ((m.1 72 25)).toNatClampNeg r7.1).1 82 ((m.1 72 25)).toNatClampNeg).toInt := congrArg Int32.toInt (kf105 82 ((m.1 72 25)).toNatClampNeg rfl)
        have kc132 : (-1 : Int) ≤ ((sm_w1 r7.2 77 ((m.1 72 25)).toNatClampNeg r7.1).1 82 ((m.1 72 25)).toNatClampNeg).toInt ∧ ((sm_w1 r7.2 77 ((m.1 72 25)).toNatClampNeg r7.1).1 82 ((m.1 72 25)).toNatClampNeg).toInt ≤ 9 := ki90.1 82 ((m.1 72 25)).toNatClampNeg
        have kc133 := zI.pf82 ki90 (m.1 72 25)
        have kc134 : ((sm_w1 r7.2 77 ((m.1 72 25)).toNatClampNeg r7.1).1 82 ((m.1 72 25)).toNatClampNeg).toInt = (r7.2.1 82 ((m.1 72 25)).toNatClampNeg).toInt := congrArg Int32.toInt (r_cell (by decide))
        refine s_ix kx41 ?_
        refine s_ix kx41 ?_
        have ki135 : zI (sm_w1 r11.2 78 ((m.1 72 25)).toNatClampNeg r11.1) := zI.w78 ki104 (show (-1 : Int) ≤ (r11.1).toInt ∧ (r11.1).toInt ≤ 20 by omega) (show 1 ≤ (r11.1).toInt ∨ (r11.2.1 72 25).toInt ≤ ((m.1 72 25)).toInt by omega) (show 0 ≤ ((m.1 72 25)).toInt by omega)
        have kc136 : (-1 : Int) ≤ ((sm_w1 r11.2 78 ((m.1 72 25)).toNatClampNeg r11.1).1 78 ((m.1 72 25)).toNatClampNeg).toInt ∧ ((sm_w1 r11.2 78 ((m.1 72 25)).toNatClampNeg r11.1).1 78 ((m.1 72 25)).toNatClampNeg).toInt ≤ 20 := ki135.1 78 ((m.1 72 25)).toNatClampNeg
        have kc137 : 0 ≤ ((sm_w1 r11.2 78 ((m.1 72 25)).toNatClampNeg r11.1).1 72 6).toInt ∧ ((sm_w1 r11.2 78 ((m.1 72 25)).toNatClampNeg r11.1).1 72 6).toInt ≤ 14 := ki135.1 72 6
        have kc138 : 0 ≤ ((sm_w1 r11.2 78 ((m.1 72 25)).toNatClampNeg r11.1).1 72 25).toInt ∧ ((sm_w1 r11.2 78 ((m.1 72 25)).toNatClampNeg r11.1).1 72 25).toInt ≤ 14 := ki135.1 72 25
        have kc139 := zI.le ki135
        have kc140 : ((sm_w1 r11.2 78 ((m.1 72 25)).toNatClampNeg r11.1).1 72 25).toInt = (r11.2.1 72 25).toInt := congrArg Int32.toInt (r_cell (by decide))
        have kc141 : ((sm_w1 r11.2 78 ((m.1 72 25)).toNatClampNeg r11.1).1 72 6).toInt = (r11.2.1 72 6).toInt := congrArg Int32.toInt (r_cell (by decide))
        have kc142 := zI.pf78 ki135 (m.1 72 25)
        have kc143 : ((sm_w1 r11.2 78 ((m.1 72 25)).toNatClampNeg r11.1).1 78 ((m.1 72 25)).toNatClampNeg).toInt = (r11.1).toInt := congrArg Int32.toInt r_hit
        refine s_lt (fun kh144 => ?_) (fun kh144 => ?_)
        · have kc145 : 0 ≤ ((sm_w1 r11.2 78 ((m.1 72 25)).toNatClampNeg r11.1).1 72 22).toInt ∧ ((sm_w1 r11.2 78 ((m.1 72 25)).toNatClampNeg r11.1).1 72 22).toInt ≤ 80 := ki135.1 72 22
          have kc146 : ((sm_w1 r11.2 78 ((m.1 72 25)).toNatClampNeg r11.1).1 72 22).toInt = (r11.2.1 72 22).toInt := congrArg Int32.toInt (r_cell (by decide))
          have kf147 : Fr wX12_readsHedge m r2.2 := Fr.trans Fr.refl kf12 rfl
          have kf148 : Fr wX12_readsHedge m (sm_w1 r2.2 76 ((m.1 72 25)).toNatClampNeg r2.1) := Fr.w kf147 rfl
          have kf149 : Fr wX12_readsHedge m r7.2 := Fr.trans kf148 kf56 rfl
          have kf150 : Fr wX12_readsHedge m (sm_w1 r7.2 77 ((m.1 72 25)).toNatClampNeg r7.1) := Fr.w kf149 rfl
          have kf151 : Fr wX12_readsHedge m r11.2 := Fr.trans kf150 kf105 rfl
          have kf152 : Fr wX12_readsHedge m (sm_w1 r11.2 78 ((m.1 72 25)).toNatClampNeg r11.1) := Fr.w kf151 rfl
          exact s_ret ⟨(show (0 ≤ (0 : Int32).toInt) ∧ ((0 : Int32).toInt ≤ 1) ∧ ((m.1 72 22).toInt ≤ ((sm_w1 r11.2 78 ((m.1 72 25)).toNatClampNeg r11.1).1 72 22).toInt) by omega), ki135, kf152⟩
        · have kc153 := L58
          refine s_bd (zX12_takes (58 : Int32) (sm_w1 r11.2 78 ((m.1 72 25)).toNatClampNeg r11.1) (show 58 ≤ (58 : Int32).toInt ∧ (58 : Int32).toInt ≤ 126 by omega) ki135) (fun r15 kr154 => ?_)
          obtain ⟨kp155, ki156, kf157⟩ := kr154
          replace kp155 : (0 ≤ r15.1.toInt) ∧ (r15.1.toInt ≤ 1) ∧ ((r15.1.toInt = 0 ∧ (r15.2.1 72 22).toInt = ((sm_w1 r11.2 78 ((m.1 72 25)).toNatClampNeg r11.1).1 72 22).toInt) ∨ (r15.1.toInt = 1 ∧ ((sm_w1 r11.2 78 ((m.1 72 25)).toNatClampNeg r11.1).1 72 22).toInt < ((sm_w1 r11.2 78 ((m.1 72 25)).toNatClampNeg r11.1).1 72 23).toInt ∧ (r15.2.1 72 22).toInt = ((sm_w1 r11.2 78 ((m.1 72 25)).toNatClampNeg r11.1).1 72 22).toInt + 1)) := kp155
          have kc158 : 0 ≤ (r15.2.1 72 22).toInt ∧ (r15.2.1 72 22).toInt ≤ 80 := ki156.1 72 22
          have kc159 : 0 ≤ ((sm_w1 r11.2 78 ((m.1 72 25)).toNatClampNeg r11.1).1 72 22).toInt ∧ ((sm_w1 r11.2 78 ((m.1 72 25)).toNatClampNeg r11.1).1 72 22).toInt ≤ 80 := ki135.1 72 22
          have kc160 : ((sm_w1 r11.2 78 ((m.1 72 25)).toNatClampNeg r11.1).1 72 22).toInt = (r11.2.1 72 22).toInt := congrArg Int32.toInt (r_cell (by decide))
          have kc161 : 0 ≤ ((sm_w1 r11.2 78 ((m.1 72 25)).toNatClampNeg r11.1).1 72 23).toInt ∧ ((sm_w1 r11.2 78 ((m.1 72 25)).toNatClampNeg r11.1).1 72 23).toInt ≤ 76 := ki135.1 72 23
          have kc162 : ((sm_w1 r11.2 78 ((m.1 72 25)).toNatClampNeg r11.1).1 72 23).toInt = (r11.2.1 72 23).toInt := congrArg Int32.toInt (r_cell (by decide))
          have kc163 : 0 ≤ (r11.2.1 72 23).toInt ∧ (r11.2.1 72 23).toInt ≤ 76 := ki104.1 72 23
          have kc164 : (r11.2.1 72 23).toInt = ((sm_w1 r7.2 77 ((m.1 72 25)).toNatClampNeg r7.1).1 72 23).toInt := congrArg Int32.toInt (kf105 72 23 rfl)
          have kc165 : 0 ≤ ((sm_w1 r7.2 77 ((m.1 72 25)).toNatClampNeg r7.1).1 72 23).toInt ∧ ((sm_w1 r7.2 77 ((m.1 72 25)).toNatClampNeg r7.1).1 72 23).toInt ≤ 76 := ki90.1 72 23
          have kc166 : ((sm_w1 r7.2 77 ((m.1 72 25)).toNatClampNeg r7.1).1 72 23).toInt = (r7.2.1 72 23).toInt := congrArg Int32.toInt (r_cell (by decide))
          have kc167 : 0 ≤ (r7.2.1 72 23).toInt ∧ (r7.2.1 72 23).toInt ≤ 76 := ki55.1 72 23
          have kc168 : (r7.2.1 72 23).toInt = ((sm_w1 r2.2 76 ((m.1 72 25)).toNatClampNeg r2.1).1 72 23).toInt := congrArg Int32.toInt (kf56 72 23 rfl)
          have kc169 : (-1 : Int) ≤ (r15.2.1 76 ((m.1 72 25)).toNatClampNeg).toInt ∧ (r15.2.1 76 ((m.1 72 25)).toNatClampNeg).toInt ≤ 9 := ki156.1 76 ((m.1 72 25)).toNatClampNeg
          have kc170 : 0 ≤ (r15.2.1 72 6).toInt ∧ (r15.2.1 72 6).toInt ≤ 14 := ki156.1 72 6
          have kc171 : 0 ≤ (r15.2.1 72 25).toInt ∧ (r15.2.1 72 25).toInt ≤ 14 := ki156.1 72 25
          have kc172 := zI.le ki156
          have kc173 : (r15.2.1 72 25).toInt = ((sm_w1 r11.2 78 ((m.1 72 25)).toNatClampNeg r11.1).1 72 25).toInt := congrArg Int32.toInt (kf157 72 25 rfl)
          have kc174 : (r15.2.1 72 6).toInt = ((sm_w1 r11.2 78 ((m.1 72 25)).toNatClampNeg r11.1).1 72 6).toInt := congrArg Int32.toInt (kf157 72 6 rfl)
          have kc175 := zI.pf76 ki156 (m.1 72 25)
          have kc176 : (r15.2.1 76 ((m.1 72 25)).toNatClampNeg).toInt = ((sm_w1 r11.2 78 ((m.1 72 25)).toNatClampNeg r11.1).1 76 ((m.1 72 25)).toNatClampNeg).toInt := congrArg Int32.toInt (kf157 76 ((m.1 72 25)).toNatClampNeg rfl)
          have kc177 : (-1 : Int) ≤ ((sm_w1 r11.2 78 ((m.1 72 25)).toNatClampNeg r11.1).1 76 ((m.1 72 25)).toNatClampNeg).toInt ∧ ((sm_w1 r11.2 78 ((m.1 72 25)).toNatClampNeg r11.1).1 76 ((m.1 72 25)).toNatClampNeg).toInt ≤ 9 := ki135.1 76 ((m.1 72 25)).toNatClampNeg
          have kc178 := zI.pf76 ki135 (m.1 72 25)
          have kc179 : ((sm_w1 r11.2 78 ((m.1 72 25)).toNatClampNeg r11.1).1 76 ((m.1 72 25)).toNatClampNeg).toInt = (r11.2.1 76 ((m.1 72 25)).toNatClampNeg).toInt := congrArg Int32.toInt (r_cell (by decide))
          have kc180 : (-1 : Int) ≤ (r15.2.1 77 ((m.1 72 25)).toNatClampNeg).toInt ∧ (r15.2.1 77 ((m.1 72 25)).toNatClampNeg).toInt ≤ 9 := ki156.1 77 ((m.1 72 25)).toNatClampNeg
          have kc181 := zI.pf77 ki156 (m.1 72 25)
          have kc182 : (r15.2.1 77 ((m.1 72 25)).toNatClampNeg).toInt = ((sm_w1 r11.2 78 ((m.1 72 25)).toNatClampNeg r11.1).1 77 ((m.1 72 25)).toNatClampNeg).toInt := congrArg Int32.toInt (kf157 77 ((m.1 72 25)).toNatClampNeg rfl)
          have kc183 : (-1 : Int) ≤ ((sm_w1 r11.2 78 ((m.1 72 25)).toNatClampNeg r11.1).1 77 ((m.1 72 25)).toNatClampNeg).toInt ∧ ((sm_w1 r11.2 78 ((m.1 72 25)).toNatClampNeg r11.1).1 77 ((m.1 72 25)).toNatClampNeg).toInt ≤ 9 := ki135.1 77 ((m.1 72 25)).toNatClampNeg
          have kc184 := zI.pf77 ki135 (m.1 72 25)
          have kc185 : ((sm_w1 r11.2 78 ((m.1 72 25)).toNatClampNeg r11.1).1 77 ((m.1 72 25)).toNatClampNeg).toInt = (r11.2.1 77 ((m.1 72 25)).toNatClampNeg).toInt := congrArg Int32.toInt (r_cell (by decide))
          have kc186 : (-1 : Int) ≤ (r15.2.1 78 ((m.1 72 25)).toNatClampNeg).toInt ∧ (r15.2.1 78 ((m.1 72 25)).toNatClampNeg).toInt ≤ 20 := ki156.1 78 ((m.1 72 25)).toNatClampNeg
          have kc187 := zI.pf78 ki156 (m.1 72 25)
          have kc188 : (r15.2.1 78 ((m.1 72 25)).toNatClampNeg).toInt = ((sm_w1 r11.2 78 ((m.1 72 25)).toNatClampNeg r11.1).1 78 ((m.1 72 25)).toNatClampNeg).toInt := congrArg Int32.toInt (kf157 78 ((m.1 72 25)).toNatClampNeg rfl)
          have kc189 : (-1 : Int) ≤ (r15.2.1 82 ((m.1 72 25)).toNatClampNeg).toInt ∧ (r15.2.1 82 ((m.1 72 25)).toNatClampNeg).toInt ≤ 9 := ki156.1 82 ((m.1 72 25)).toNatClampNeg
          have kc190 := zI.pf82 ki156 (m.1 72 25)
          have kc191 : (r15.2.1 82 ((m.1 72 25)).toNatClampNeg).toInt = ((sm_w1 r11.2 78 ((m.1 72 25)).toNatClampNeg r11.1).1 82 ((m.1 72 25)).toNatClampNeg).toInt := congrArg Int32.toInt (kf157 82 ((m.1 72 25)).toNatClampNeg rfl)
          have kc192 : (-1 : Int) ≤ ((sm_w1 r11.2 78 ((m.1 72 25)).toNatClampNeg r11.1).1 82 ((m.1 72 25)).toNatClampNeg).toInt ∧ ((sm_w1 r11.2 78 ((m.1 72 25)).toNatClampNeg r11.1).1 82 ((m.1 72 25)).toNatClampNeg).toInt ≤ 9 := ki135.1 82 ((m.1 72 25)).toNatClampNeg
          have kc193 := zI.pf82 ki135 (m.1 72 25)
          have kc194 : ((sm_w1 r11.2 78 ((m.1 72 25)).toNatClampNeg r11.1).1 82 ((m.1 72 25)).toNatClampNeg).toInt = (r11.2.1 82 ((m.1 72 25)).toNatClampNeg).toInt := congrArg Int32.toInt (r_cell (by decide))
          refine s_eq (fun kh195 => ?_) (fun kh195 => ?_)
          · have kf196 : Fr wX12_readsHedge m r2.2 := Fr.trans Fr.refl kf12 rfl
            have kf197 : Fr wX12_readsHedge m (sm_w1 r2.2 76 ((m.1 72 25)).toNatClampNeg r2.1) := Fr.w kf196 rfl
            have kf198 : Fr wX12_readsHedge m r7.2 := Fr.trans kf197 kf56 rfl
            have kf199 : Fr wX12_readsHedge m (sm_w1 r7.2 77 ((m.1 72 25)).toNatClampNeg r7.1) := Fr.w kf198 rfl
            have kf200 : Fr wX12_readsHedge m r11.2 := Fr.trans kf199 kf105 rfl
            have kf201 : Fr wX12_readsHedge m (sm_w1 r11.2 78 ((m.1 72 25)).toNatClampNeg r11.1) := Fr.w kf200 rfl
            have kf202 : Fr wX12_readsHedge m r15.2 := Fr.trans kf201 kf157 rfl
            exact s_ret ⟨(show (0 ≤ (0 : Int32).toInt) ∧ ((0 : Int32).toInt ≤ 1) ∧ ((m.1 72 22).toInt ≤ (r15.2.1 72 22).toInt) by omega), ki156, kf202⟩
          · have kc203 := L5
            refine s_bd (zX12_digit (5 : Int32) r15.2 (show 5 ≤ (5 : Int32).toInt ∧ (5 : Int32).toInt ≤ 9 by omega) ki156) (fun r17 kr204 => ?_)
            obtain ⟨kp205, ki206, kf207⟩ := kr204
            replace kp205 : ((-1 : Int) ≤ r17.1.toInt) ∧ (r17.1.toInt ≤ 9) ∧ ((r17.1.toInt < 0 ∧ (r17.2.1 72 22).toInt = (r15.2.1 72 22).toInt) ∨ (0 ≤ r17.1.toInt ∧ (r15.2.1 72 22).toInt < (r15.2.1 72 23).toInt ∧ (r17.2.1 72 22).toInt = (r15.2.1 72 22).toInt + 1)) := kp205
            have kc208 : 0 ≤ (r17.2.1 72 22).toInt ∧ (r17.2.1 72 22).toInt ≤ 80 := ki206.1 72 22
            have kc209 : 0 ≤ (r15.2.1 72 23).toInt ∧ (r15.2.1 72 23).toInt ≤ 76 := ki156.1 72 23
            have kc210 : (r15.2.1 72 23).toInt = ((sm_w1 r11.2 78 ((m.1 72 25)).toNatClampNeg r11.1).1 72 23).toInt := congrArg Int32.toInt (kf157 72 23 rfl)
            have kc211 : (-1 : Int) ≤ (r17.2.1 76 ((m.1 72 25)).toNatClampNeg).toInt ∧ (r17.2.1 76 ((m.1 72 25)).toNatClampNeg).toInt ≤ 9 := ki206.1 76 ((m.1 72 25)).toNatClampNeg
            have kc212 : 0 ≤ (r17.2.1 72 6).toInt ∧ (r17.2.1 72 6).toInt ≤ 14 := ki206.1 72 6
            have kc213 : 0 ≤ (r17.2.1 72 25).toInt ∧ (r17.2.1 72 25).toInt ≤ 14 := ki206.1 72 25
            have kc214 := zI.le ki206
            have kc215 : (r17.2.1 72 25).toInt = (r15.2.1 72 25).toInt := congrArg Int32.toInt (kf207 72 25 rfl)
            have kc216 : (r17.2.1 72 6).toInt = (r15.2.1 72 6).toInt := congrArg Int32.toInt (kf207 72 6 rfl)
            have kc217 := zI.pf76 ki206 (m.1 72 25)
            have kc218 : (r17.2.1 76 ((m.1 72 25)).toNatClampNeg).toInt = (r15.2.1 76 ((m.1 72 25)).toNatClampNeg).toInt := congrArg Int32.toInt (kf207 76 ((m.1 72 25)).toNatClampNeg rfl)
            have kc219 : (-1 : Int) ≤ (r17.2.1 77 ((m.1 72 25)).toNatClampNeg).toInt ∧ (r17.2.1 77 ((m.1 72 25)).toNatClampNeg).toInt ≤ 9 := ki206.1 77 ((m.1 72 25)).toNatClampNeg
            have kc220 := zI.pf77 ki206 (m.1 72 25)
            have kc221 : (r17.2.1 77 ((m.1 72 25)).toNatClampNeg).toInt = (r15.2.1 77 ((m.1 72 25)).toNatClampNeg).toInt := congrArg Int32.toInt (kf207 77 ((m.1 72 25)).toNatClampNeg rfl)
            have kc222 : (-1 : Int) ≤ (r17.2.1 78 ((m.1 72 25)).toNatClampNeg).toInt ∧ (r17.2.1 78 ((m.1 72 25)).toNatClampNeg).toInt ≤ 20 := ki206.1 78 ((m.1 72 25)).toNatClampNeg
            have kc223 := zI.pf78 ki206 (m.1 72 25)
            have kc224 : (r17.2.1 78 ((m.1 72 25)).toNatClampNeg).toInt = (r15.2.1 78 ((m.1 72 25)).toNatClampNeg).toInt := congrArg Int32.toInt (kf207 78 ((m.1 72 25)).toNatClampNeg rfl)
            have kc225 : (-1 : Int) ≤ (r17.2.1 82 ((m.1 72 25)).toNatClampNeg).toInt ∧ (r17.2.1 82 ((m.1 72 25)).toNatClampNeg).toInt ≤ 9 := ki206.1 82 ((m.1 72 25)).toNatClampNeg
            have kc226 := zI.pf82 ki206 (m.1 72 25)
            have kc227 : (r17.2.1 82 ((m.1 72 25)).toNatClampNeg).toInt = (r15.2.1 82 ((m.1 72 25)).toNatClampNeg).toInt := congrArg Int32.toInt (kf207 82 ((m.1 72 25)).toNatClampNeg rfl)
            refine s_ix kx41 ?_
            refine s_ix kx41 ?_
            have ki228 : zI (sm_w1 r17.2 79 ((m.1 72 25)).toNatClampNeg r17.1) := zI.w ki206 rfl (show (-1 : Int) ≤ (r17.1).toInt ∧ (r17.1).toInt ≤ 9 by omega)
            have kc229 : (-1 : Int) ≤ ((sm_w1 r17.2 79 ((m.1 72 25)).toNatClampNeg r17.1).1 79 ((m.1 72 25)).toNatClampNeg).toInt ∧ ((sm_w1 r17.2 79 ((m.1 72 25)).toNatClampNeg r17.1).1 79 ((m.1 72 25)).toNatClampNeg).toInt ≤ 9 := ki228.1 79 ((m.1 72 25)).toNatClampNeg
            have kc230 : ((sm_w1 r17.2 79 ((m.1 72 25)).toNatClampNeg r17.1).1 79 ((m.1 72 25)).toNatClampNeg).toInt = (r17.1).toInt := congrArg Int32.toInt r_hit
            refine s_le (fun kh231 => ?_) (fun kh231 => ?_)
            · refine s_bd (zX12_digit (5 : Int32) (sm_w1 r17.2 79 ((m.1 72 25)).toNatClampNeg r17.1) (show 5 ≤ (5 : Int32).toInt ∧ (5 : Int32).toInt ≤ 9 by omega) ki228) (fun r21 kr232 => ?_)
              obtain ⟨kp233, ki234, kf235⟩ := kr232
              replace kp233 : ((-1 : Int) ≤ r21.1.toInt) ∧ (r21.1.toInt ≤ 9) ∧ ((r21.1.toInt < 0 ∧ (r21.2.1 72 22).toInt = ((sm_w1 r17.2 79 ((m.1 72 25)).toNatClampNeg r17.1).1 72 22).toInt) ∨ (0 ≤ r21.1.toInt ∧ ((sm_w1 r17.2 79 ((m.1 72 25)).toNatClampNeg r17.1).1 72 22).toInt < ((sm_w1 r17.2 79 ((m.1 72 25)).toNatClampNeg r17.1).1 72 23).toInt ∧ (r21.2.1 72 22).toInt = ((sm_w1 r17.2 79 ((m.1 72 25)).toNatClampNeg r17.1).1 72 22).toInt + 1)) := kp233
              have kc236 : 0 ≤ (r21.2.1 72 22).toInt ∧ (r21.2.1 72 22).toInt ≤ 80 := ki234.1 72 22
              have kc237 : 0 ≤ ((sm_w1 r17.2 79 ((m.1 72 25)).toNatClampNeg r17.1).1 72 22).toInt ∧ ((sm_w1 r17.2 79 ((m.1 72 25)).toNatClampNeg r17.1).1 72 22).toInt ≤ 80 := ki228.1 72 22
              have kc238 : ((sm_w1 r17.2 79 ((m.1 72 25)).toNatClampNeg r17.1).1 72 22).toInt = (r17.2.1 72 22).toInt := congrArg Int32.toInt (r_cell (by decide))
              have kc239 : 0 ≤ ((sm_w1 r17.2 79 ((m.1 72 25)).toNatClampNeg r17.1).1 72 23).toInt ∧ ((sm_w1 r17.2 79 ((m.1 72 25)).toNatClampNeg r17.1).1 72 23).toInt ≤ 76 := ki228.1 72 23
              have kc240 : ((sm_w1 r17.2 79 ((m.1 72 25)).toNatClampNeg r17.1).1 72 23).toInt = (r17.2.1 72 23).toInt := congrArg Int32.toInt (r_cell (by decide))
              have kc241 : 0 ≤ (r17.2.1 72 23).toInt ∧ (r17.2.1 72 23).toInt ≤ 76 := ki206.1 72 23
              have kc242 : (r17.2.1 72 23).toInt = (r15.2.1 72 23).toInt := congrArg Int32.toInt (kf207 72 23 rfl)
              have kc243 : (-1 : Int) ≤ (r21.2.1 76 ((m.1 72 25)).toNatClampNeg).toInt ∧ (r21.2.1 76 ((m.1 72 25)).toNatClampNeg).toInt ≤ 9 := ki234.1 76 ((m.1 72 25)).toNatClampNeg
              have kc244 : 0 ≤ (r21.2.1 72 6).toInt ∧ (r21.2.1 72 6).toInt ≤ 14 := ki234.1 72 6
              have kc245 : 0 ≤ (r21.2.1 72 25).toInt ∧ (r21.2.1 72 25).toInt ≤ 14 := ki234.1 72 25
              have kc246 := zI.le ki234
              have kc247 : (r21.2.1 72 25).toInt = ((sm_w1 r17.2 79 ((m.1 72 25)).toNatClampNeg r17.1).1 72 25).toInt := congrArg Int32.toInt (kf235 72 25 rfl)
              have kc248 : 0 ≤ ((sm_w1 r17.2 79 ((m.1 72 25)).toNatClampNeg r17.1).1 72 25).toInt ∧ ((sm_w1 r17.2 79 ((m.1 72 25)).toNatClampNeg r17.1).1 72 25).toInt ≤ 14 := ki228.1 72 25
              have kc249 : 0 ≤ ((sm_w1 r17.2 79 ((m.1 72 25)).toNatClampNeg r17.1).1 72 6).toInt ∧ ((sm_w1 r17.2 79 ((m.1 72 25)).toNatClampNeg r17.1).1 72 6).toInt ≤ 14 := ki228.1 72 6
              have kc250 := zI.le ki228
              have kc251 : ((sm_w1 r17.2 79 ((m.1 72 25)).toNatClampNeg r17.1).1 72 6).toInt = (r17.2.1 72 6).toInt := congrArg Int32.toInt (r_cell (by decide))
              have kc252 : ((sm_w1 r17.2 79 ((m.1 72 25)).toNatClampNeg r17.1).1 72 25).toInt = (r17.2.1 72 25).toInt := congrArg Int32.toInt (r_cell (by decide))
              have kc253 : (r21.2.1 72 6).toInt = ((sm_w1 r17.2 79 ((m.1 72 25)).toNatClampNeg r17.1).1 72 6).toInt := congrArg Int32.toInt (kf235 72 6 rfl)
              have kc254 := zI.pf76 ki234 (m.1 72 25)
              have kc255 : (r21.2.1 76 ((m.1 72 25)).toNatClampNeg).toInt = ((sm_w1 r17.2 79 ((m.1 72 25)).toNatClampNeg r17.1).1 76 ((m.1 72 25)).toNatClampNeg).toInt := congrArg Int32.toInt (kf235 76 ((m.1 72 25)).toNatClampNeg rfl)
              have kc256 : (-1 : Int) ≤ ((sm_w1 r17.2 79 ((m.1 72 25)).toNatClampNeg r17.1).1 76 ((m.1 72 25)).toNatClampNeg).toInt ∧ ((sm_w1 r17.2 79 ((m.1 72 25)).toNatClampNeg r17.1).1 76 ((m.1 72 25)).toNatClampNeg).toInt ≤ 9 := ki228.1 76 ((m.1 72 25)).toNatClampNeg
              have kc257 := zI.pf76 ki228 (m.1 72 25)
              have kc258 : ((sm_w1 r17.2 79 ((m.1 72 25)).toNatClampNeg r17.1).1 76 ((m.1 72 25)).toNatClampNeg).toInt = (r17.2.1 76 ((m.1 72 25)).toNatClampNeg).toInt := congrArg Int32.toInt (r_cell (by decide))
              have kc259 : (-1 : Int) ≤ (r21.2.1 77 ((m.1 72 25)).toNatClampNeg).toInt ∧ (r21.2.1 77 ((m.1 72 25)).toNatClampNeg).toInt ≤ 9 := ki234.1 77 ((m.1 72 25)).toNatClampNeg
              have kc260 := zI.pf77 ki234 (m.1 72 25)
              have kc261 : (r21.2.1 77 ((m.1 72 25)).toNatClampNeg).toInt = ((sm_w1 r17.2 79 ((m.1 72 25)).toNatClampNeg r17.1).1 77 ((m.1 72 25)).toNatClampNeg).toInt := congrArg Int32.toInt (kf235 77 ((m.1 72 25)).toNatClampNeg rfl)
              have kc262 : (-1 : Int) ≤ ((sm_w1 r17.2 79 ((m.1 72 25)).toNatClampNeg r17.1).1 77 ((m.1 72 25)).toNatClampNeg).toInt ∧ ((sm_w1 r17.2 79 ((m.1 72 25)).toNatClampNeg r17.1).1 77 ((m.1 72 25)).toNatClampNeg).toInt ≤ 9 := ki228.1 77 ((m.1 72 25)).toNatClampNeg
              have kc263 := zI.pf77 ki228 (m.1 72 25)
              have kc264 : ((sm_w1 r17.2 79 ((m.1 72 25)).toNatClampNeg r17.1).1 77 ((m.1 72 25)).toNatClampNeg).toInt = (r17.2.1 77 ((m.1 72 25)).toNatClampNeg).toInt := congrArg Int32.toInt (r_cell (by decide))
              have kc265 : (-1 : Int) ≤ (r21.2.1 78 ((m.1 72 25)).toNatClampNeg).toInt ∧ (r21.2.1 78 ((m.1 72 25)).toNatClampNeg).toInt ≤ 20 := ki234.1 78 ((m.1 72 25)).toNatClampNeg
              have kc266 := zI.pf78 ki234 (m.1 72 25)
              have kc267 : (r21.2.1 78 ((m.1 72 25)).toNatClampNeg).toInt = ((sm_w1 r17.2 79 ((m.1 72 25)).toNatClampNeg r17.1).1 78 ((m.1 72 25)).toNatClampNeg).toInt := congrArg Int32.toInt (kf235 78 ((m.1 72 25)).toNatClampNeg rfl)
              have kc268 : (-1 : Int) ≤ ((sm_w1 r17.2 79 ((m.1 72 25)).toNatClampNeg r17.1).1 78 ((m.1 72 25)).toNatClampNeg).toInt ∧ ((sm_w1 r17.2 79 ((m.1 72 25)).toNatClampNeg r17.1).1 78 ((m.1 72 25)).toNatClampNeg).toInt ≤ 20 := ki228.1 78 ((m.1 72 25)).toNatClampNeg
              have kc269 := zI.pf78 ki228 (m.1 72 25)
              have kc270 : ((sm_w1 r17.2 79 ((m.1 72 25)).toNatClampNeg r17.1).1 78 ((m.1 72 25)).toNatClampNeg).toInt = (r17.2.1 78 ((m.1 72 25)).toNatClampNeg).toInt := congrArg Int32.toInt (r_cell (by decide))
              have kc271 : (-1 : Int) ≤ (r21.2.1 82 ((m.1 72 25)).toNatClampNeg).toInt ∧ (r21.2.1 82 ((m.1 72 25)).toNatClampNeg).toInt ≤ 9 := ki234.1 82 ((m.1 72 25)).toNatClampNeg
              have kc272 := zI.pf82 ki234 (m.1 72 25)
              have kc273 : (r21.2.1 82 ((m.1 72 25)).toNatClampNeg).toInt = ((sm_w1 r17.2 79 ((m.1 72 25)).toNatClampNeg r17.1).1 82 ((m.1 72 25)).toNatClampNeg).toInt := congrArg Int32.toInt (kf235 82 ((m.1 72 25)).toNatClampNeg rfl)
              have kc274 : (-1 : Int) ≤ ((sm_w1 r17.2 79 ((m.1 72 25)).toNatClampNeg r17.1).1 82 ((m.1 72 25)).toNatClampNeg).toInt ∧ ((sm_w1 r17.2 79 ((m.1 72 25)).toNatClampNeg r17.1).1 82 ((m.1 72 25)).toNatClampNeg).toInt ≤ 9 := ki228.1 82 ((m.1 72 25)).toNatClampNeg
              have kc275 := zI.pf82 ki228 (m.1 72 25)
              have kc276 : ((sm_w1 r17.2 79 ((m.1 72 25)).toNatClampNeg r17.1).1 82 ((m.1 72 25)).toNatClampNeg).toInt = (r17.2.1 82 ((m.1 72 25)).toNatClampNeg).toInt := congrArg Int32.toInt (r_cell (by decide))
              refine s_ix kx41 ?_
              refine s_ix kx41 ?_
              have ki277 : zI (sm_w1 r21.2 80 ((m.1 72 25)).toNatClampNeg r21.1) := zI.w ki234 rfl (show (-1 : Int) ≤ (r21.1).toInt ∧ (r21.1).toInt ≤ 9 by omega)
              have kc278 : (-1 : Int) ≤ ((sm_w1 r21.2 80 ((m.1 72 25)).toNatClampNeg r21.1).1 80 ((m.1 72 25)).toNatClampNeg).toInt ∧ ((sm_w1 r21.2 80 ((m.1 72 25)).toNatClampNeg r21.1).1 80 ((m.1 72 25)).toNatClampNeg).toInt ≤ 9 := ki277.1 80 ((m.1 72 25)).toNatClampNeg
              have kc279 : ((sm_w1 r21.2 80 ((m.1 72 25)).toNatClampNeg r21.1).1 80 ((m.1 72 25)).toNatClampNeg).toInt = (r21.1).toInt := congrArg Int32.toInt r_hit
              refine s_le (fun kh280 => ?_) (fun kh280 => ?_)
              · have kc281 := L119
                refine s_bd (zX12_takes (119 : Int32) (sm_w1 r21.2 80 ((m.1 72 25)).toNatClampNeg r21.1) (show 58 ≤ (119 : Int32).toInt ∧ (119 : Int32).toInt ≤ 126 by omega) ki277) (fun r25 kr282 => ?_)
                obtain ⟨kp283, ki284, kf285⟩ := kr282
                replace kp283 : (0 ≤ r25.1.toInt) ∧ (r25.1.toInt ≤ 1) ∧ ((r25.1.toInt = 0 ∧ (r25.2.1 72 22).toInt = ((sm_w1 r21.2 80 ((m.1 72 25)).toNatClampNeg r21.1).1 72 22).toInt) ∨ (r25.1.toInt = 1 ∧ ((sm_w1 r21.2 80 ((m.1 72 25)).toNatClampNeg r21.1).1 72 22).toInt < ((sm_w1 r21.2 80 ((m.1 72 25)).toNatClampNeg r21.1).1 72 23).toInt ∧ (r25.2.1 72 22).toInt = ((sm_w1 r21.2 80 ((m.1 72 25)).toNatClampNeg r21.1).1 72 22).toInt + 1)) := kp283
                have kc286 : 0 ≤ (r25.2.1 72 22).toInt ∧ (r25.2.1 72 22).toInt ≤ 80 := ki284.1 72 22
                have kc287 : 0 ≤ ((sm_w1 r21.2 80 ((m.1 72 25)).toNatClampNeg r21.1).1 72 22).toInt ∧ ((sm_w1 r21.2 80 ((m.1 72 25)).toNatClampNeg r21.1).1 72 22).toInt ≤ 80 := ki277.1 72 22
                have kc288 : ((sm_w1 r21.2 80 ((m.1 72 25)).toNatClampNeg r21.1).1 72 22).toInt = (r21.2.1 72 22).toInt := congrArg Int32.toInt (r_cell (by decide))
                have kc289 : 0 ≤ ((sm_w1 r21.2 80 ((m.1 72 25)).toNatClampNeg r21.1).1 72 23).toInt ∧ ((sm_w1 r21.2 80 ((m.1 72 25)).toNatClampNeg r21.1).1 72 23).toInt ≤ 76 := ki277.1 72 23
                have kc290 : ((sm_w1 r21.2 80 ((m.1 72 25)).toNatClampNeg r21.1).1 72 23).toInt = (r21.2.1 72 23).toInt := congrArg Int32.toInt (r_cell (by decide))
                have kc291 : 0 ≤ (r21.2.1 72 23).toInt ∧ (r21.2.1 72 23).toInt ≤ 76 := ki234.1 72 23
                have kc292 : (r21.2.1 72 23).toInt = ((sm_w1 r17.2 79 ((m.1 72 25)).toNatClampNeg r17.1).1 72 23).toInt := congrArg Int32.toInt (kf235 72 23 rfl)
                have kc293 : (-1 : Int) ≤ (r25.2.1 76 ((m.1 72 25)).toNatClampNeg).toInt ∧ (r25.2.1 76 ((m.1 72 25)).toNatClampNeg).toInt ≤ 9 := ki284.1 76 ((m.1 72 25)).toNatClampNeg
                have kc294 : 0 ≤ (r25.2.1 72 6).toInt ∧ (r25.2.1 72 6).toInt ≤ 14 := ki284.1 72 6
                have kc295 : 0 ≤ (r25.2.1 72 25).toInt ∧ (r25.2.1 72 25).toInt ≤ 14 := ki284.1 72 25
                have kc296 := zI.le ki284
                have kc297 : (r25.2.1 72 25).toInt = ((sm_w1 r21.2 80 ((m.1 72 25)).toNatClampNeg r21.1).1 72 25).toInt := congrArg Int32.toInt (kf285 72 25 rfl)
                have kc298 : 0 ≤ ((sm_w1 r21.2 80 ((m.1 72 25)).toNatClampNeg r21.1).1 72 25).toInt ∧ ((sm_w1 r21.2 80 ((m.1 72 25)).toNatClampNeg r21.1).1 72 25).toInt ≤ 14 := ki277.1 72 25
                have kc299 : 0 ≤ ((sm_w1 r21.2 80 ((m.1 72 25)).toNatClampNeg r21.1).1 72 6).toInt ∧ ((sm_w1 r21.2 80 ((m.1 72 25)).toNatClampNeg r21.1).1 72 6).toInt ≤ 14 := ki277.1 72 6
                have kc300 := zI.le ki277
                have kc301 : ((sm_w1 r21.2 80 ((m.1 72 25)).toNatClampNeg r21.1).1 72 6).toInt = (r21.2.1 72 6).toInt := congrArg Int32.toInt (r_cell (by decide))
                have kc302 : ((sm_w1 r21.2 80 ((m.1 72 25)).toNatClampNeg r21.1).1 72 25).toInt = (r21.2.1 72 25).toInt := congrArg Int32.toInt (r_cell (by decide))
                have kc303 : (r25.2.1 72 6).toInt = ((sm_w1 r21.2 80 ((m.1 72 25)).toNatClampNeg r21.1).1 72 6).toInt := congrArg Int32.toInt (kf285 72 6 rfl)
                have kc304 := zI.pf76 ki284 (m.1 72 25)
                have kc305 : (r25.2.1 76 ((m.1 72 25)).toNatClampNeg).toInt = ((sm_w1 r21.2 80 ((m.1 72 25)).toNatClampNeg r21.1).1 76 ((m.1 72 25)).toNatClampNeg).toInt := congrArg Int32.toInt (kf285 76 ((m.1 72 25)).toNatClampNeg rfl)
                have kc306 : (-1 : Int) ≤ ((sm_w1 r21.2 80 ((m.1 72 25)).toNatClampNeg r21.1).1 76 ((m.1 72 25)).toNatClampNeg).toInt ∧ ((sm_w1 r21.2 80 ((m.1 72 25)).toNatClampNeg r21.1).1 76 ((m.1 72 25)).toNatClampNeg).toInt ≤ 9 := ki277.1 76 ((m.1 72 25)).toNatClampNeg
                have kc307 := zI.pf76 ki277 (m.1 72 25)
                have kc308 : ((sm_w1 r21.2 80 ((m.1 72 25)).toNatClampNeg r21.1).1 76 ((m.1 72 25)).toNatClampNeg).toInt = (r21.2.1 76 ((m.1 72 25)).toNatClampNeg).toInt := congrArg Int32.toInt (r_cell (by decide))
                have kc309 : (-1 : Int) ≤ (r25.2.1 77 ((m.1 72 25)).toNatClampNeg).toInt ∧ (r25.2.1 77 ((m.1 72 25)).toNatClampNeg).toInt ≤ 9 := ki284.1 77 ((m.1 72 25)).toNatClampNeg
                have kc310 := zI.pf77 ki284 (m.1 72 25)
                have kc311 : (r25.2.1 77 ((m.1 72 25)).toNatClampNeg).toInt = ((sm_w1 r21.2 80 ((m.1 72 25)).toNatClampNeg r21.1).1 77 ((m.1 72 25)).toNatClampNeg).toInt := congrArg Int32.toInt (kf285 77 ((m.1 72 25)).toNatClampNeg rfl)
                have kc312 : (-1 : Int) ≤ ((sm_w1 r21.2 80 ((m.1 72 25)).toNatClampNeg r21.1).1 77 ((m.1 72 25)).toNatClampNeg).toInt ∧ ((sm_w1 r21.2 80 ((m.1 72 25)).toNatClampNeg r21.1).1 77 ((m.1 72 25)).toNatClampNeg).toInt ≤ 9 := ki277.1 77 ((m.1 72 25)).toNatClampNeg
                have kc313 := zI.pf77 ki277 (m.1 72 25)
                have kc314 : ((sm_w1 r21.2 80 ((m.1 72 25)).toNatClampNeg r21.1).1 77 ((m.1 72 25)).toNatClampNeg).toInt = (r21.2.1 77 ((m.1 72 25)).toNatClampNeg).toInt := congrArg Int32.toInt (r_cell (by decide))
                have kc315 : (-1 : Int) ≤ (r25.2.1 78 ((m.1 72 25)).toNatClampNeg).toInt ∧ (r25.2.1 78 ((m.1 72 25)).toNatClampNeg).toInt ≤ 20 := ki284.1 78 ((m.1 72 25)).toNatClampNeg
                have kc316 := zI.pf78 ki284 (m.1 72 25)
                have kc317 : (r25.2.1 78 ((m.1 72 25)).toNatClampNeg).toInt = ((sm_w1 r21.2 80 ((m.1 72 25)).toNatClampNeg r21.1).1 78 ((m.1 72 25)).toNatClampNeg).toInt := congrArg Int32.toInt (kf285 78 ((m.1 72 25)).toNatClampNeg rfl)
                have kc318 : (-1 : Int) ≤ ((sm_w1 r21.2 80 ((m.1 72 25)).toNatClampNeg r21.1).1 78 ((m.1 72 25)).toNatClampNeg).toInt ∧ ((sm_w1 r21.2 80 ((m.1 72 25)).toNatClampNeg r21.1).1 78 ((m.1 72 25)).toNatClampNeg).toInt ≤ 20 := ki277.1 78 ((m.1 72 25)).toNatClampNeg
                have kc319 := zI.pf78 ki277 (m.1 72 25)
                have kc320 : ((sm_w1 r21.2 80 ((m.1 72 25)).toNatClampNeg r21.1).1 78 ((m.1 72 25)).toNatClampNeg).toInt = (r21.2.1 78 ((m.1 72 25)).toNatClampNeg).toInt := congrArg Int32.toInt (r_cell (by decide))
                have kc321 : (-1 : Int) ≤ (r25.2.1 82 ((m.1 72 25)).toNatClampNeg).toInt ∧ (r25.2.1 82 ((m.1 72 25)).toNatClampNeg).toInt ≤ 9 := ki284.1 82 ((m.1 72 25)).toNatClampNeg
                have kc322 := zI.pf82 ki284 (m.1 72 25)
                have kc323 : (r25.2.1 82 ((m.1 72 25)).toNatClampNeg).toInt = ((sm_w1 r21.2 80 ((m.1 72 25)).toNatClampNeg r21.1).1 82 ((m.1 72 25)).toNatClampNeg).toInt := congrArg Int32.toInt (kf285 82 ((m.1 72 25)).toNatClampNeg rfl)
                have kc324 : (-1 : Int) ≤ ((sm_w1 r21.2 80 ((m.1 72 25)).toNatClampNeg r21.1).1 82 ((m.1 72 25)).toNatClampNeg).toInt ∧ ((sm_w1 r21.2 80 ((m.1 72 25)).toNatClampNeg r21.1).1 82 ((m.1 72 25)).toNatClampNeg).toInt ≤ 9 := ki277.1 82 ((m.1 72 25)).toNatClampNeg
                have kc325 := zI.pf82 ki277 (m.1 72 25)
                have kc326 : ((sm_w1 r21.2 80 ((m.1 72 25)).toNatClampNeg r21.1).1 82 ((m.1 72 25)).toNatClampNeg).toInt = (r21.2.1 82 ((m.1 72 25)).toNatClampNeg).toInt := congrArg Int32.toInt (r_cell (by decide))
                refine s_eq (fun kh327 => ?_) (fun kh327 => ?_)
                · refine s_ix kx41 ?_
                  refine s_ix kx41 ?_
                  have ki328 : zI (sm_w1 r25.2 81 ((m.1 72 25)).toNatClampNeg (1 : Int32)) := zI.w ki284 rfl (show (-1 : Int) ≤ ((1 : Int32)).toInt ∧ ((1 : Int32)).toInt ≤ 9 by omega)
                  have kc329 : (-1 : Int) ≤ ((sm_w1 r25.2 81 ((m.1 72 25)).toNatClampNeg (1 : Int32)).1 81 ((m.1 72 25)).toNatClampNeg).toInt ∧ ((sm_w1 r25.2 81 ((m.1 72 25)).toNatClampNeg (1 : Int32)).1 81 ((m.1 72 25)).toNatClampNeg).toInt ≤ 9 := ki328.1 81 ((m.1 72 25)).toNatClampNeg
                  have kc330 : ((sm_w1 r25.2 81 ((m.1 72 25)).toNatClampNeg (1 : Int32)).1 81 ((m.1 72 25)).toNatClampNeg).toInt = ((1 : Int32)).toInt := congrArg Int32.toInt r_hit
                  refine s_le (fun kh331 => ?_) (fun kh331 => ?_)
                  · have kc332 := L126
                    refine s_bd (zX12_takes (126 : Int32) (sm_w1 r25.2 81 ((m.1 72 25)).toNatClampNeg (1 : Int32)) (show 58 ≤ (126 : Int32).toInt ∧ (126 : Int32).toInt ≤ 126 by omega) ki328) (fun r29 kr333 => ?_)
                    obtain ⟨kp334, ki335, kf336⟩ := kr333
                    replace kp334 : (0 ≤ r29.1.toInt) ∧ (r29.1.toInt ≤ 1) ∧ ((r29.1.toInt = 0 ∧ (r29.2.1 72 22).toInt = ((sm_w1 r25.2 81 ((m.1 72 25)).toNatClampNeg (1 : Int32)).1 72 22).toInt) ∨ (r29.1.toInt = 1 ∧ ((sm_w1 r25.2 81 ((m.1 72 25)).toNatClampNeg (1 : Int32)).1 72 22).toInt < ((sm_w1 r25.2 81 ((m.1 72 25)).toNatClampNeg (1 : Int32)).1 72 23).toInt ∧ (r29.2.1 72 22).toInt = ((sm_w1 r25.2 81 ((m.1 72 25)).toNatClampNeg (1 : Int32)).1 72 22).toInt + 1)) := kp334
                    have kc337 : 0 ≤ (r29.2.1 72 22).toInt ∧ (r29.2.1 72 22).toInt ≤ 80 := ki335.1 72 22
                    have kc338 : 0 ≤ ((sm_w1 r25.2 81 ((m.1 72 25)).toNatClampNeg (1 : Int32)).1 72 22).toInt ∧ ((sm_w1 r25.2 81 ((m.1 72 25)).toNatClampNeg (1 : Int32)).1 72 22).toInt ≤ 80 := ki328.1 72 22
                    have kc339 : ((sm_w1 r25.2 81 ((m.1 72 25)).toNatClampNeg (1 : Int32)).1 72 22).toInt = (r25.2.1 72 22).toInt := congrArg Int32.toInt (r_cell (by decide))
                    have kc340 : 0 ≤ ((sm_w1 r25.2 81 ((m.1 72 25)).toNatClampNeg (1 : Int32)).1 72 23).toInt ∧ ((sm_w1 r25.2 81 ((m.1 72 25)).toNatClampNeg (1 : Int32)).1 72 23).toInt ≤ 76 := ki328.1 72 23
                    have kc341 : ((sm_w1 r25.2 81 ((m.1 72 25)).toNatClampNeg (1 : Int32)).1 72 23).toInt = (r25.2.1 72 23).toInt := congrArg Int32.toInt (r_cell (by decide))
                    have kc342 : 0 ≤ (r25.2.1 72 23).toInt ∧ (r25.2.1 72 23).toInt ≤ 76 := ki284.1 72 23
                    have kc343 : (r25.2.1 72 23).toInt = ((sm_w1 r21.2 80 ((m.1 72 25)).toNatClampNeg r21.1).1 72 23).toInt := congrArg Int32.toInt (kf285 72 23 rfl)
                    have kc344 : (-1 : Int) ≤ (r29.2.1 76 ((m.1 72 25)).toNatClampNeg).toInt ∧ (r29.2.1 76 ((m.1 72 25)).toNatClampNeg).toInt ≤ 9 := ki335.1 76 ((m.1 72 25)).toNatClampNeg
                    have kc345 : 0 ≤ (r29.2.1 72 6).toInt ∧ (r29.2.1 72 6).toInt ≤ 14 := ki335.1 72 6
                    have kc346 : 0 ≤ (r29.2.1 72 25).toInt ∧ (r29.2.1 72 25).toInt ≤ 14 := ki335.1 72 25
                    have kc347 := zI.le ki335
                    have kc348 : (r29.2.1 72 25).toInt = ((sm_w1 r25.2 81 ((m.1 72 25)).toNatClampNeg (1 : Int32)).1 72 25).toInt := congrArg Int32.toInt (kf336 72 25 rfl)
                    have kc349 : 0 ≤ ((sm_w1 r25.2 81 ((m.1 72 25)).toNatClampNeg (1 : Int32)).1 72 25).toInt ∧ ((sm_w1 r25.2 81 ((m.1 72 25)).toNatClampNeg (1 : Int32)).1 72 25).toInt ≤ 14 := ki328.1 72 25
                    have kc350 : 0 ≤ ((sm_w1 r25.2 81 ((m.1 72 25)).toNatClampNeg (1 : Int32)).1 72 6).toInt ∧ ((sm_w1 r25.2 81 ((m.1 72 25)).toNatClampNeg (1 : Int32)).1 72 6).toInt ≤ 14 := ki328.1 72 6
                    have kc351 := zI.le ki328
                    have kc352 : ((sm_w1 r25.2 81 ((m.1 72 25)).toNatClampNeg (1 : Int32)).1 72 6).toInt = (r25.2.1 72 6).toInt := congrArg Int32.toInt (r_cell (by decide))
                    have kc353 : ((sm_w1 r25.2 81 ((m.1 72 25)).toNatClampNeg (1 : Int32)).1 72 25).toInt = (r25.2.1 72 25).toInt := congrArg Int32.toInt (r_cell (by decide))
                    have kc354 : (r29.2.1 72 6).toInt = ((sm_w1 r25.2 81 ((m.1 72 25)).toNatClampNeg (1 : Int32)).1 72 6).toInt := congrArg Int32.toInt (kf336 72 6 rfl)
                    have kc355 := zI.pf76 ki335 (m.1 72 25)
                    have kc356 : (r29.2.1 76 ((m.1 72 25)).toNatClampNeg).toInt = ((sm_w1 r25.2 81 ((m.1 72 25)).toNatClampNeg (1 : Int32)).1 76 ((m.1 72 25)).toNatClampNeg).toInt := congrArg Int32.toInt (kf336 76 ((m.1 72 25)).toNatClampNeg rfl)
                    have kc357 : (-1 : Int) ≤ ((sm_w1 r25.2 81 ((m.1 72 25)).toNatClampNeg (1 : Int32)).1 76 ((m.1 72 25)).toNatClampNeg).toInt ∧ ((sm_w1 r25.2 81 ((m.1 72 25)).toNatClampNeg (1 : Int32)).1 76 ((m.1 72 25)).toNatClampNeg).toInt ≤ 9 := ki328.1 76 ((m.1 72 25)).toNatClampNeg
                    have kc358 := zI.pf76 ki328 (m.1 72 25)
                    have kc359 : ((sm_w1 r25.2 81 ((m.1 72 25)).toNatClampNeg (1 : Int32)).1 76 ((m.1 72 25)).toNatClampNeg).toInt = (r25.2.1 76 ((m.1 72 25)).toNatClampNeg).toInt := congrArg Int32.toInt (r_cell (by decide))
                    have kc360 : (-1 : Int) ≤ (r29.2.1 77 ((m.1 72 25)).toNatClampNeg).toInt ∧ (r29.2.1 77 ((m.1 72 25)).toNatClampNeg).toInt ≤ 9 := ki335.1 77 ((m.1 72 25)).toNatClampNeg
                    have kc361 := zI.pf77 ki335 (m.1 72 25)
                    have kc362 : (r29.2.1 77 ((m.1 72 25)).toNatClampNeg).toInt = ((sm_w1 r25.2 81 ((m.1 72 25)).toNatClampNeg (1 : Int32)).1 77 ((m.1 72 25)).toNatClampNeg).toInt := congrArg Int32.toInt (kf336 77 ((m.1 72 25)).toNatClampNeg rfl)
                    have kc363 : (-1 : Int) ≤ ((sm_w1 r25.2 81 ((m.1 72 25)).toNatClampNeg (1 : Int32)).1 77 ((m.1 72 25)).toNatClampNeg).toInt ∧ ((sm_w1 r25.2 81 ((m.1 72 25)).toNatClampNeg (1 : Int32)).1 77 ((m.1 72 25)).toNatClampNeg).toInt ≤ 9 := ki328.1 77 ((m.1 72 25)).toNatClampNeg
                    have kc364 := zI.pf77 ki328 (m.1 72 25)
                    have kc365 : ((sm_w1 r25.2 81 ((m.1 72 25)).toNatClampNeg (1 : Int32)).1 77 ((m.1 72 25)).toNatClampNeg).toInt = (r25.2.1 77 ((m.1 72 25)).toNatClampNeg).toInt := congrArg Int32.toInt (r_cell (by decide))
                    have kc366 : (-1 : Int) ≤ (r29.2.1 78 ((m.1 72 25)).toNatClampNeg).toInt ∧ (r29.2.1 78 ((m.1 72 25)).toNatClampNeg).toInt ≤ 20 := ki335.1 78 ((m.1 72 25)).toNatClampNeg
                    have kc367 := zI.pf78 ki335 (m.1 72 25)
                    have kc368 : (r29.2.1 78 ((m.1 72 25)).toNatClampNeg).toInt = ((sm_w1 r25.2 81 ((m.1 72 25)).toNatClampNeg (1 : Int32)).1 78 ((m.1 72 25)).toNatClampNeg).toInt := congrArg Int32.toInt (kf336 78 ((m.1 72 25)).toNatClampNeg rfl)
                    have kc369 : (-1 : Int) ≤ ((sm_w1 r25.2 81 ((m.1 72 25)).toNatClampNeg (1 : Int32)).1 78 ((m.1 72 25)).toNatClampNeg).toInt ∧ ((sm_w1 r25.2 81 ((m.1 72 25)).toNatClampNeg (1 : Int32)).1 78 ((m.1 72 25)).toNatClampNeg).toInt ≤ 20 := ki328.1 78 ((m.1 72 25)).toNatClampNeg
                    have kc370 := zI.pf78 ki328 (m.1 72 25)
                    have kc371 : ((sm_w1 r25.2 81 ((m.1 72 25)).toNatClampNeg (1 : Int32)).1 78 ((m.1 72 25)).toNatClampNeg).toInt = (r25.2.1 78 ((m.1 72 25)).toNatClampNeg).toInt := congrArg Int32.toInt (r_cell (by decide))
                    have kc372 : (-1 : Int) ≤ (r29.2.1 82 ((m.1 72 25)).toNatClampNeg).toInt ∧ (r29.2.1 82 ((m.1 72 25)).toNatClampNeg).toInt ≤ 9 := ki335.1 82 ((m.1 72 25)).toNatClampNeg
                    have kc373 := zI.pf82 ki335 (m.1 72 25)
                    have kc374 : (r29.2.1 82 ((m.1 72 25)).toNatClampNeg).toInt = ((sm_w1 r25.2 81 ((m.1 72 25)).toNatClampNeg (1 : Int32)).1 82 ((m.1 72 25)).toNatClampNeg).toInt := congrArg Int32.toInt (kf336 82 ((m.1 72 25)).toNatClampNeg rfl)
                    have kc375 : (-1 : Int) ≤ ((sm_w1 r25.2 81 ((m.1 72 25)).toNatClampNeg (1 : Int32)).1 82 ((m.1 72 25)).toNatClampNeg).toInt ∧ ((sm_w1 r25.2 81 ((m.1 72 25)).toNatClampNeg (1 : Int32)).1 82 ((m.1 72 25)).toNatClampNeg).toInt ≤ 9 := ki328.1 82 ((m.1 72 25)).toNatClampNeg
                    have kc376 := zI.pf82 ki328 (m.1 72 25)
                    have kc377 : ((sm_w1 r25.2 81 ((m.1 72 25)).toNatClampNeg (1 : Int32)).1 82 ((m.1 72 25)).toNatClampNeg).toInt = (r25.2.1 82 ((m.1 72 25)).toNatClampNeg).toInt := congrArg Int32.toInt (r_cell (by decide))
                    refine s_eq (fun kh378 => ?_) (fun kh378 => ?_)
                    · refine s_ix kx41 ?_
                      refine s_ix kx41 ?_
                      have ki379 : zI (sm_w1 r29.2 82 ((m.1 72 25)).toNatClampNeg (0 : Int32)) := zI.w82 ki335 (show (-1 : Int) ≤ ((0 : Int32)).toInt ∧ ((0 : Int32)).toInt ≤ 9 by omega) (show 0 ≤ ((0 : Int32)).toInt ∨ (r29.2.1 72 25).toInt ≤ ((m.1 72 25)).toInt by omega) (show 0 ≤ ((m.1 72 25)).toInt by omega)
                      have kc380 : (-1 : Int) ≤ ((sm_w1 r29.2 82 ((m.1 72 25)).toNatClampNeg (0 : Int32)).1 82 ((m.1 72 25)).toNatClampNeg).toInt ∧ ((sm_w1 r29.2 82 ((m.1 72 25)).toNatClampNeg (0 : Int32)).1 82 ((m.1 72 25)).toNatClampNeg).toInt ≤ 9 := ki379.1 82 ((m.1 72 25)).toNatClampNeg
                      have kc381 : 0 ≤ ((sm_w1 r29.2 82 ((m.1 72 25)).toNatClampNeg (0 : Int32)).1 72 6).toInt ∧ ((sm_w1 r29.2 82 ((m.1 72 25)).toNatClampNeg (0 : Int32)).1 72 6).toInt ≤ 14 := ki379.1 72 6
                      have kc382 : 0 ≤ ((sm_w1 r29.2 82 ((m.1 72 25)).toNatClampNeg (0 : Int32)).1 72 25).toInt ∧ ((sm_w1 r29.2 82 ((m.1 72 25)).toNatClampNeg (0 : Int32)).1 72 25).toInt ≤ 14 := ki379.1 72 25
                      have kc383 := zI.le ki379
                      have kc384 : ((sm_w1 r29.2 82 ((m.1 72 25)).toNatClampNeg (0 : Int32)).1 72 25).toInt = (r29.2.1 72 25).toInt := congrArg Int32.toInt (r_cell (by decide))
                      have kc385 : ((sm_w1 r29.2 82 ((m.1 72 25)).toNatClampNeg (0 : Int32)).1 72 6).toInt = (r29.2.1 72 6).toInt := congrArg Int32.toInt (r_cell (by decide))
                      have kc386 := zI.pf82 ki379 (m.1 72 25)
                      have kc387 : ((sm_w1 r29.2 82 ((m.1 72 25)).toNatClampNeg (0 : Int32)).1 82 ((m.1 72 25)).toNatClampNeg).toInt = ((0 : Int32)).toInt := congrArg Int32.toInt r_hit
                      refine s_le (fun kh388 => ?_) (fun kh388 => ?_)
                      · have kc389 := L103
                        refine s_bd (zX12_takes (103 : Int32) (sm_w1 r29.2 82 ((m.1 72 25)).toNatClampNeg (0 : Int32)) (show 58 ≤ (103 : Int32).toInt ∧ (103 : Int32).toInt ≤ 126 by omega) ki379) (fun r33 kr390 => ?_)
                        obtain ⟨kp391, ki392, kf393⟩ := kr390
                        replace kp391 : (0 ≤ r33.1.toInt) ∧ (r33.1.toInt ≤ 1) ∧ ((r33.1.toInt = 0 ∧ (r33.2.1 72 22).toInt = ((sm_w1 r29.2 82 ((m.1 72 25)).toNatClampNeg (0 : Int32)).1 72 22).toInt) ∨ (r33.1.toInt = 1 ∧ ((sm_w1 r29.2 82 ((m.1 72 25)).toNatClampNeg (0 : Int32)).1 72 22).toInt < ((sm_w1 r29.2 82 ((m.1 72 25)).toNatClampNeg (0 : Int32)).1 72 23).toInt ∧ (r33.2.1 72 22).toInt = ((sm_w1 r29.2 82 ((m.1 72 25)).toNatClampNeg (0 : Int32)).1 72 22).toInt + 1)) := kp391
                        have kc394 : 0 ≤ (r33.2.1 72 22).toInt ∧ (r33.2.1 72 22).toInt ≤ 80 := ki392.1 72 22
                        have kc395 : 0 ≤ ((sm_w1 r29.2 82 ((m.1 72 25)).toNatClampNeg (0 : Int32)).1 72 22).toInt ∧ ((sm_w1 r29.2 82 ((m.1 72 25)).toNatClampNeg (0 : Int32)).1 72 22).toInt ≤ 80 := ki379.1 72 22
                        have kc396 : ((sm_w1 r29.2 82 ((m.1 72 25)).toNatClampNeg (0 : Int32)).1 72 22).toInt = (r29.2.1 72 22).toInt := congrArg Int32.toInt (r_cell (by decide))
                        have kc397 : 0 ≤ ((sm_w1 r29.2 82 ((m.1 72 25)).toNatClampNeg (0 : Int32)).1 72 23).toInt ∧ ((sm_w1 r29.2 82 ((m.1 72 25)).toNatClampNeg (0 : Int32)).1 72 23).toInt ≤ 76 := ki379.1 72 23
                        have kc398 : ((sm_w1 r29.2 82 ((m.1 72 25)).toNatClampNeg (0 : Int32)).1 72 23).toInt = (r29.2.1 72 23).toInt := congrArg Int32.toInt (r_cell (by decide))
                        have kc399 : 0 ≤ (r29.2.1 72 23).toInt ∧ (r29.2.1 72 23).toInt ≤ 76 := ki335.1 72 23
                        have kc400 : (r29.2.1 72 23).toInt = ((sm_w1 r25.2 81 ((m.1 72 25)).toNatClampNeg (1 : Int32)).1 72 23).toInt := congrArg Int32.toInt (kf336 72 23 rfl)
                        have kc401 : (-1 : Int) ≤ (r33.2.1 76 ((m.1 72 25)).toNatClampNeg).toInt ∧ (r33.2.1 76 ((m.1 72 25)).toNatClampNeg).toInt ≤ 9 := ki392.1 76 ((m.1 72 25)).toNatClampNeg
                        have kc402 : 0 ≤ (r33.2.1 72 6).toInt ∧ (r33.2.1 72 6).toInt ≤ 14 := ki392.1 72 6
                        have kc403 : 0 ≤ (r33.2.1 72 25).toInt ∧ (r33.2.1 72 25).toInt ≤ 14 := ki392.1 72 25
                        have kc404 := zI.le ki392
                        have kc405 : (r33.2.1 72 25).toInt = ((sm_w1 r29.2 82 ((m.1 72 25)).toNatClampNeg (0 : Int32)).1 72 25).toInt := congrArg Int32.toInt (kf393 72 25 rfl)
                        have kc406 : (r33.2.1 72 6).toInt = ((sm_w1 r29.2 82 ((m.1 72 25)).toNatClampNeg (0 : Int32)).1 72 6).toInt := congrArg Int32.toInt (kf393 72 6 rfl)
                        have kc407 := zI.pf76 ki392 (m.1 72 25)
                        have kc408 : (r33.2.1 76 ((m.1 72 25)).toNatClampNeg).toInt = ((sm_w1 r29.2 82 ((m.1 72 25)).toNatClampNeg (0 : Int32)).1 76 ((m.1 72 25)).toNatClampNeg).toInt := congrArg Int32.toInt (kf393 76 ((m.1 72 25)).toNatClampNeg rfl)
                        have kc409 : (-1 : Int) ≤ ((sm_w1 r29.2 82 ((m.1 72 25)).toNatClampNeg (0 : Int32)).1 76 ((m.1 72 25)).toNatClampNeg).toInt ∧ ((sm_w1 r29.2 82 ((m.1 72 25)).toNatClampNeg (0 : Int32)).1 76 ((m.1 72 25)).toNatClampNeg).toInt ≤ 9 := ki379.1 76 ((m.1 72 25)).toNatClampNeg
                        have kc410 := zI.pf76 ki379 (m.1 72 25)
                        have kc411 : ((sm_w1 r29.2 82 ((m.1 72 25)).toNatClampNeg (0 : Int32)).1 76 ((m.1 72 25)).toNatClampNeg).toInt = (r29.2.1 76 ((m.1 72 25)).toNatClampNeg).toInt := congrArg Int32.toInt (r_cell (by decide))
                        have kc412 : (-1 : Int) ≤ (r33.2.1 77 ((m.1 72 25)).toNatClampNeg).toInt ∧ (r33.2.1 77 ((m.1 72 25)).toNatClampNeg).toInt ≤ 9 := ki392.1 77 ((m.1 72 25)).toNatClampNeg
                        have kc413 := zI.pf77 ki392 (m.1 72 25)
                        have kc414 : (r33.2.1 77 ((m.1 72 25)).toNatClampNeg).toInt = ((sm_w1 r29.2 82 ((m.1 72 25)).toNatClampNeg (0 : Int32)).1 77 ((m.1 72 25)).toNatClampNeg).toInt := congrArg Int32.toInt (kf393 77 ((m.1 72 25)).toNatClampNeg rfl)
                        have kc415 : (-1 : Int) ≤ ((sm_w1 r29.2 82 ((m.1 72 25)).toNatClampNeg (0 : Int32)).1 77 ((m.1 72 25)).toNatClampNeg).toInt ∧ ((sm_w1 r29.2 82 ((m.1 72 25)).toNatClampNeg (0 : Int32)).1 77 ((m.1 72 25)).toNatClampNeg).toInt ≤ 9 := ki379.1 77 ((m.1 72 25)).toNatClampNeg
                        have kc416 := zI.pf77 ki379 (m.1 72 25)
                        have kc417 : ((sm_w1 r29.2 82 ((m.1 72 25)).toNatClampNeg (0 : Int32)).1 77 ((m.1 72 25)).toNatClampNeg).toInt = (r29.2.1 77 ((m.1 72 25)).toNatClampNeg).toInt := congrArg Int32.toInt (r_cell (by decide))
                        have kc418 : (-1 : Int) ≤ (r33.2.1 78 ((m.1 72 25)).toNatClampNeg).toInt ∧ (r33.2.1 78 ((m.1 72 25)).toNatClampNeg).toInt ≤ 20 := ki392.1 78 ((m.1 72 25)).toNatClampNeg
                        have kc419 := zI.pf78 ki392 (m.1 72 25)
                        have kc420 : (r33.2.1 78 ((m.1 72 25)).toNatClampNeg).toInt = ((sm_w1 r29.2 82 ((m.1 72 25)).toNatClampNeg (0 : Int32)).1 78 ((m.1 72 25)).toNatClampNeg).toInt := congrArg Int32.toInt (kf393 78 ((m.1 72 25)).toNatClampNeg rfl)
                        have kc421 : (-1 : Int) ≤ ((sm_w1 r29.2 82 ((m.1 72 25)).toNatClampNeg (0 : Int32)).1 78 ((m.1 72 25)).toNatClampNeg).toInt ∧ ((sm_w1 r29.2 82 ((m.1 72 25)).toNatClampNeg (0 : Int32)).1 78 ((m.1 72 25)).toNatClampNeg).toInt ≤ 20 := ki379.1 78 ((m.1 72 25)).toNatClampNeg
                        have kc422 := zI.pf78 ki379 (m.1 72 25)
                        have kc423 : ((sm_w1 r29.2 82 ((m.1 72 25)).toNatClampNeg (0 : Int32)).1 78 ((m.1 72 25)).toNatClampNeg).toInt = (r29.2.1 78 ((m.1 72 25)).toNatClampNeg).toInt := congrArg Int32.toInt (r_cell (by decide))
                        have kc424 : (-1 : Int) ≤ (r33.2.1 82 ((m.1 72 25)).toNatClampNeg).toInt ∧ (r33.2.1 82 ((m.1 72 25)).toNatClampNeg).toInt ≤ 9 := ki392.1 82 ((m.1 72 25)).toNatClampNeg
                        have kc425 := zI.pf82 ki392 (m.1 72 25)
                        have kc426 : (r33.2.1 82 ((m.1 72 25)).toNatClampNeg).toInt = ((sm_w1 r29.2 82 ((m.1 72 25)).toNatClampNeg (0 : Int32)).1 82 ((m.1 72 25)).toNatClampNeg).toInt := congrArg Int32.toInt (kf393 82 ((m.1 72 25)).toNatClampNeg rfl)
                        refine s_eq (fun kh427 => ?_) (fun kh427 => ?_)
                        · refine s_ix kx41 ?_
                          have kc428 : 0 ≤ (r29.2.1 72 26).toInt ∧ (r29.2.1 72 26).toInt ≤ 16383 := ki335.1 72 26
                          have kc429 : (r29.2.1 72 26).toInt = ((sm_w1 r25.2 81 ((m.1 72 25)).toNatClampNeg (1 : Int32)).1 72 26).toInt := congrArg Int32.toInt (kf336 72 26 rfl)
                          have kc430 : 0 ≤ ((sm_w1 r25.2 81 ((m.1 72 25)).toNatClampNeg (1 : Int32)).1 72 26).toInt ∧ ((sm_w1 r25.2 81 ((m.1 72 25)).toNatClampNeg (1 : Int32)).1 72 26).toInt ≤ 16383 := ki328.1 72 26
                          have kc431 : ((sm_w1 r25.2 81 ((m.1 72 25)).toNatClampNeg (1 : Int32)).1 72 26).toInt = (r25.2.1 72 26).toInt := congrArg Int32.toInt (r_cell (by decide))
                          have kc432 : 0 ≤ (r25.2.1 72 26).toInt ∧ (r25.2.1 72 26).toInt ≤ 16383 := ki284.1 72 26
                          have kc433 : (r25.2.1 72 26).toInt = ((sm_w1 r21.2 80 ((m.1 72 25)).toNatClampNeg r21.1).1 72 26).toInt := congrArg Int32.toInt (kf285 72 26 rfl)
                          have kc434 : 0 ≤ ((sm_w1 r21.2 80 ((m.1 72 25)).toNatClampNeg r21.1).1 72 26).toInt ∧ ((sm_w1 r21.2 80 ((m.1 72 25)).toNatClampNeg r21.1).1 72 26).toInt ≤ 16383 := ki277.1 72 26
                          have kc435 : ((sm_w1 r21.2 80 ((m.1 72 25)).toNatClampNeg r21.1).1 72 26).toInt = (r21.2.1 72 26).toInt := congrArg Int32.toInt (r_cell (by decide))
                          have kc436 : 0 ≤ (r21.2.1 72 26).toInt ∧ (r21.2.1 72 26).toInt ≤ 16383 := ki234.1 72 26
                          have kc437 : (r21.2.1 72 26).toInt = ((sm_w1 r17.2 79 ((m.1 72 25)).toNatClampNeg r17.1).1 72 26).toInt := congrArg Int32.toInt (kf235 72 26 rfl)
                          have kc438 : 0 ≤ ((sm_w1 r17.2 79 ((m.1 72 25)).toNatClampNeg r17.1).1 72 26).toInt ∧ ((sm_w1 r17.2 79 ((m.1 72 25)).toNatClampNeg r17.1).1 72 26).toInt ≤ 16383 := ki228.1 72 26
                          have kc439 : ((sm_w1 r17.2 79 ((m.1 72 25)).toNatClampNeg r17.1).1 72 26).toInt = (r17.2.1 72 26).toInt := congrArg Int32.toInt (r_cell (by decide))
                          have kc440 : 0 ≤ (r17.2.1 72 26).toInt ∧ (r17.2.1 72 26).toInt ≤ 16383 := ki206.1 72 26
                          have kc441 : (r17.2.1 72 26).toInt = (r15.2.1 72 26).toInt := congrArg Int32.toInt (kf207 72 26 rfl)
                          have kc442 : 0 ≤ (r15.2.1 72 26).toInt ∧ (r15.2.1 72 26).toInt ≤ 16383 := ki156.1 72 26
                          have kc443 : (r15.2.1 72 26).toInt = ((sm_w1 r11.2 78 ((m.1 72 25)).toNatClampNeg r11.1).1 72 26).toInt := congrArg Int32.toInt (kf157 72 26 rfl)
                          have kc444 : 0 ≤ ((sm_w1 r11.2 78 ((m.1 72 25)).toNatClampNeg r11.1).1 72 26).toInt ∧ ((sm_w1 r11.2 78 ((m.1 72 25)).toNatClampNeg r11.1).1 72 26).toInt ≤ 16383 := ki135.1 72 26
                          have kc445 : ((sm_w1 r11.2 78 ((m.1 72 25)).toNatClampNeg r11.1).1 72 26).toInt = (r11.2.1 72 26).toInt := congrArg Int32.toInt (r_cell (by decide))
                          have kc446 : 0 ≤ (r11.2.1 72 26).toInt ∧ (r11.2.1 72 26).toInt ≤ 16383 := ki104.1 72 26
                          have kc447 : (r11.2.1 72 26).toInt = ((sm_w1 r7.2 77 ((m.1 72 25)).toNatClampNeg r7.1).1 72 26).toInt := congrArg Int32.toInt (kf105 72 26 rfl)
                          have kc448 : 0 ≤ ((sm_w1 r7.2 77 ((m.1 72 25)).toNatClampNeg r7.1).1 72 26).toInt ∧ ((sm_w1 r7.2 77 ((m.1 72 25)).toNatClampNeg r7.1).1 72 26).toInt ≤ 16383 := ki90.1 72 26
                          have kc449 : ((sm_w1 r7.2 77 ((m.1 72 25)).toNatClampNeg r7.1).1 72 26).toInt = (r7.2.1 72 26).toInt := congrArg Int32.toInt (r_cell (by decide))
                          have kc450 : 0 ≤ (r7.2.1 72 26).toInt ∧ (r7.2.1 72 26).toInt ≤ 16383 := ki55.1 72 26
                          have kc451 : (r7.2.1 72 26).toInt = ((sm_w1 r2.2 76 ((m.1 72 25)).toNatClampNeg r2.1).1 72 26).toInt := congrArg Int32.toInt (kf56 72 26 rfl)
                          have kc452 : 0 ≤ ((sm_w1 r2.2 76 ((m.1 72 25)).toNatClampNeg r2.1).1 72 26).toInt ∧ ((sm_w1 r2.2 76 ((m.1 72 25)).toNatClampNeg r2.1).1 72 26).toInt ≤ 16383 := ki43.1 72 26
                          have kc453 : ((sm_w1 r2.2 76 ((m.1 72 25)).toNatClampNeg r2.1).1 72 26).toInt = (r2.2.1 72 26).toInt := congrArg Int32.toInt (r_cell (by decide))
                          have kc454 : 0 ≤ (r2.2.1 72 26).toInt ∧ (r2.2.1 72 26).toInt ≤ 16383 := ki11.1 72 26
                          have kc455 : (r2.2.1 72 26).toInt = (m.1 72 26).toInt := congrArg Int32.toInt (kf12 72 26 rfl)
                          have kc456 : 0 ≤ (m.1 72 26).toInt ∧ (m.1 72 26).toInt ≤ 16383 := hI.1 72 26
                          have kc457 : 0 ≤ ((r29.2.1 72 26) ||| (0 : Int32)).toInt ∧ ((r29.2.1 72 26) ||| (0 : Int32)).toInt < 16384 := a_or 14 (by decide) (by decide) (by omega) (by omega) (by omega) (by omega)
                          have ki458 : zI (sm_w1 r33.2 72 26 ((r29.2.1 72 26) ||| (0 : Int32))) := zI.w ki392 rfl (show 0 ≤ (((r29.2.1 72 26) ||| (0 : Int32))).toInt ∧ (((r29.2.1 72 26) ||| (0 : Int32))).toInt ≤ 16383 by omega)
                          have ki459 : zI (sm_w1 (sm_w1 r33.2 72 26 ((r29.2.1 72 26) ||| (0 : Int32))) 83 ((m.1 72 25)).toNatClampNeg (-1 : Int32)) := zI.w ki458 rfl (rg _)
                          have kc460 : ((r33.2.1 72 25) + (1 : Int32)).toInt = ((r33.2.1 72 25)).toInt + 1 := a_addl L1 (by omega) (by omega)
                          have kc462 : 0 ≤ ((sm_w1 (sm_w1 r33.2 72 26 ((r29.2.1 72 26) ||| (0 : Int32))) 83 ((m.1 72 25)).toNatClampNeg (-1 : Int32)).1 72 6).toInt ∧ ((sm_w1 (sm_w1 r33.2 72 26 ((r29.2.1 72 26) ||| (0 : Int32))) 83 ((m.1 72 25)).toNatClampNeg (-1 : Int32)).1 72 6).toInt ≤ 14 := ki459.1 72 6
                          have kc463 : 0 ≤ ((sm_w1 (sm_w1 r33.2 72 26 ((r29.2.1 72 26) ||| (0 : Int32))) 83 ((m.1 72 25)).toNatClampNeg (-1 : Int32)).1 72 25).toInt ∧ ((sm_w1 (sm_w1 r33.2 72 26 ((r29.2.1 72 26) ||| (0 : Int32))) 83 ((m.1 72 25)).toNatClampNeg (-1 : Int32)).1 72 25).toInt ≤ 14 := ki459.1 72 25
                          have kc464 := zI.le ki459
                          have kc465 : ((sm_w1 (sm_w1 r33.2 72 26 ((r29.2.1 72 26) ||| (0 : Int32))) 83 ((m.1 72 25)).toNatClampNeg (-1 : Int32)).1 72 25).toInt = ((sm_w1 r33.2 72 26 ((r29.2.1 72 26) ||| (0 : Int32))).1 72 25).toInt := congrArg Int32.toInt (r_cell (by decide))
                          have kc466 : 0 ≤ ((sm_w1 r33.2 72 26 ((r29.2.1 72 26) ||| (0 : Int32))).1 72 25).toInt ∧ ((sm_w1 r33.2 72 26 ((r29.2.1 72 26) ||| (0 : Int32))).1 72 25).toInt ≤ 14 := ki458.1 72 25
                          have kc467 : 0 ≤ ((sm_w1 r33.2 72 26 ((r29.2.1 72 26) ||| (0 : Int32))).1 72 6).toInt ∧ ((sm_w1 r33.2 72 26 ((r29.2.1 72 26) ||| (0 : Int32))).1 72 6).toInt ≤ 14 := ki458.1 72 6
                          have kc468 := zI.le ki458
                          have kc469 : ((sm_w1 r33.2 72 26 ((r29.2.1 72 26) ||| (0 : Int32))).1 72 6).toInt = (r33.2.1 72 6).toInt := rfl
                          have kc470 : ((sm_w1 r33.2 72 26 ((r29.2.1 72 26) ||| (0 : Int32))).1 72 25).toInt = (r33.2.1 72 25).toInt := rfl
                          have kc471 : ((sm_w1 (sm_w1 r33.2 72 26 ((r29.2.1 72 26) ||| (0 : Int32))) 83 ((m.1 72 25)).toNatClampNeg (-1 : Int32)).1 72 6).toInt = ((sm_w1 r33.2 72 26 ((r29.2.1 72 26) ||| (0 : Int32))).1 72 6).toInt := congrArg Int32.toInt (r_cell (by decide))
                          have kc472 := a_tn (show 0 ≤ (m.1 72 25).toInt by omega)
                          have kc473 : (-1 : Int) ≤ ((sm_w1 (sm_w1 r33.2 72 26 ((r29.2.1 72 26) ||| (0 : Int32))) 83 ((m.1 72 25)).toNatClampNeg (-1 : Int32)).1 76 ((m.1 72 25)).toNatClampNeg).toInt ∧ ((sm_w1 (sm_w1 r33.2 72 26 ((r29.2.1 72 26) ||| (0 : Int32))) 83 ((m.1 72 25)).toNatClampNeg (-1 : Int32)).1 76 ((m.1 72 25)).toNatClampNeg).toInt ≤ 9 := ki459.1 76 ((m.1 72 25)).toNatClampNeg
                          have kc474 := zI.pf76 ki459 (m.1 72 25)
                          have kc475 : ((sm_w1 (sm_w1 r33.2 72 26 ((r29.2.1 72 26) ||| (0 : Int32))) 83 ((m.1 72 25)).toNatClampNeg (-1 : Int32)).1 76 ((m.1 72 25)).toNatClampNeg).toInt = ((sm_w1 r33.2 72 26 ((r29.2.1 72 26) ||| (0 : Int32))).1 76 ((m.1 72 25)).toNatClampNeg).toInt := congrArg Int32.toInt (r_cell (by decide))
                          have kc476 : (-1 : Int) ≤ ((sm_w1 r33.2 72 26 ((r29.2.1 72 26) ||| (0 : Int32))).1 76 ((m.1 72 25)).toNatClampNeg).toInt ∧ ((sm_w1 r33.2 72 26 ((r29.2.1 72 26) ||| (0 : Int32))).1 76 ((m.1 72 25)).toNatClampNeg).toInt ≤ 9 := ki458.1 76 ((m.1 72 25)).toNatClampNeg
                          have kc477 := zI.pf76 ki458 (m.1 72 25)
                          have kc478 : ((sm_w1 r33.2 72 26 ((r29.2.1 72 26) ||| (0 : Int32))).1 76 ((m.1 72 25)).toNatClampNeg).toInt = (r33.2.1 76 ((m.1 72 25)).toNatClampNeg).toInt := congrArg Int32.toInt (r_cell (by decide))
                          have kc479 : (-1 : Int) ≤ ((sm_w1 (sm_w1 r33.2 72 26 ((r29.2.1 72 26) ||| (0 : Int32))) 83 ((m.1 72 25)).toNatClampNeg (-1 : Int32)).1 77 ((m.1 72 25)).toNatClampNeg).toInt ∧ ((sm_w1 (sm_w1 r33.2 72 26 ((r29.2.1 72 26) ||| (0 : Int32))) 83 ((m.1 72 25)).toNatClampNeg (-1 : Int32)).1 77 ((m.1 72 25)).toNatClampNeg).toInt ≤ 9 := ki459.1 77 ((m.1 72 25)).toNatClampNeg
                          have kc480 := zI.pf77 ki459 (m.1 72 25)
                          have kc481 : ((sm_w1 (sm_w1 r33.2 72 26 ((r29.2.1 72 26) ||| (0 : Int32))) 83 ((m.1 72 25)).toNatClampNeg (-1 : Int32)).1 77 ((m.1 72 25)).toNatClampNeg).toInt = ((sm_w1 r33.2 72 26 ((r29.2.1 72 26) ||| (0 : Int32))).1 77 ((m.1 72 25)).toNatClampNeg).toInt := congrArg Int32.toInt (r_cell (by decide))
                          have kc482 : (-1 : Int) ≤ ((sm_w1 r33.2 72 26 ((r29.2.1 72 26) ||| (0 : Int32))).1 77 ((m.1 72 25)).toNatClampNeg).toInt ∧ ((sm_w1 r33.2 72 26 ((r29.2.1 72 26) ||| (0 : Int32))).1 77 ((m.1 72 25)).toNatClampNeg).toInt ≤ 9 := ki458.1 77 ((m.1 72 25)).toNatClampNeg
                          have kc483 := zI.pf77 ki458 (m.1 72 25)
                          have kc484 : ((sm_w1 r33.2 72 26 ((r29.2.1 72 26) ||| (0 : Int32))).1 77 ((m.1 72 25)).toNatClampNeg).toInt = (r33.2.1 77 ((m.1 72 25)).toNatClampNeg).toInt := congrArg Int32.toInt (r_cell (by decide))
                          have kc485 : (-1 : Int) ≤ ((sm_w1 (sm_w1 r33.2 72 26 ((r29.2.1 72 26) ||| (0 : Int32))) 83 ((m.1 72 25)).toNatClampNeg (-1 : Int32)).1 78 ((m.1 72 25)).toNatClampNeg).toInt ∧ ((sm_w1 (sm_w1 r33.2 72 26 ((r29.2.1 72 26) ||| (0 : Int32))) 83 ((m.1 72 25)).toNatClampNeg (-1 : Int32)).1 78 ((m.1 72 25)).toNatClampNeg).toInt ≤ 20 := ki459.1 78 ((m.1 72 25)).toNatClampNeg
                          have kc486 := zI.pf78 ki459 (m.1 72 25)
                          have kc487 : ((sm_w1 (sm_w1 r33.2 72 26 ((r29.2.1 72 26) ||| (0 : Int32))) 83 ((m.1 72 25)).toNatClampNeg (-1 : Int32)).1 78 ((m.1 72 25)).toNatClampNeg).toInt = ((sm_w1 r33.2 72 26 ((r29.2.1 72 26) ||| (0 : Int32))).1 78 ((m.1 72 25)).toNatClampNeg).toInt := congrArg Int32.toInt (r_cell (by decide))
                          have kc488 : (-1 : Int) ≤ ((sm_w1 r33.2 72 26 ((r29.2.1 72 26) ||| (0 : Int32))).1 78 ((m.1 72 25)).toNatClampNeg).toInt ∧ ((sm_w1 r33.2 72 26 ((r29.2.1 72 26) ||| (0 : Int32))).1 78 ((m.1 72 25)).toNatClampNeg).toInt ≤ 20 := ki458.1 78 ((m.1 72 25)).toNatClampNeg
                          have kc489 := zI.pf78 ki458 (m.1 72 25)
                          have kc490 : ((sm_w1 r33.2 72 26 ((r29.2.1 72 26) ||| (0 : Int32))).1 78 ((m.1 72 25)).toNatClampNeg).toInt = (r33.2.1 78 ((m.1 72 25)).toNatClampNeg).toInt := congrArg Int32.toInt (r_cell (by decide))
                          have kc491 : (-1 : Int) ≤ ((sm_w1 (sm_w1 r33.2 72 26 ((r29.2.1 72 26) ||| (0 : Int32))) 83 ((m.1 72 25)).toNatClampNeg (-1 : Int32)).1 82 ((m.1 72 25)).toNatClampNeg).toInt ∧ ((sm_w1 (sm_w1 r33.2 72 26 ((r29.2.1 72 26) ||| (0 : Int32))) 83 ((m.1 72 25)).toNatClampNeg (-1 : Int32)).1 82 ((m.1 72 25)).toNatClampNeg).toInt ≤ 9 := ki459.1 82 ((m.1 72 25)).toNatClampNeg
                          have kc492 := zI.pf82 ki459 (m.1 72 25)
                          have kc493 : ((sm_w1 (sm_w1 r33.2 72 26 ((r29.2.1 72 26) ||| (0 : Int32))) 83 ((m.1 72 25)).toNatClampNeg (-1 : Int32)).1 82 ((m.1 72 25)).toNatClampNeg).toInt = ((sm_w1 r33.2 72 26 ((r29.2.1 72 26) ||| (0 : Int32))).1 82 ((m.1 72 25)).toNatClampNeg).toInt := congrArg Int32.toInt (r_cell (by decide))
                          have kc494 : (-1 : Int) ≤ ((sm_w1 r33.2 72 26 ((r29.2.1 72 26) ||| (0 : Int32))).1 82 ((m.1 72 25)).toNatClampNeg).toInt ∧ ((sm_w1 r33.2 72 26 ((r29.2.1 72 26) ||| (0 : Int32))).1 82 ((m.1 72 25)).toNatClampNeg).toInt ≤ 9 := ki458.1 82 ((m.1 72 25)).toNatClampNeg
                          have kc495 := zI.pf82 ki458 (m.1 72 25)
                          have kc496 : ((sm_w1 r33.2 72 26 ((r29.2.1 72 26) ||| (0 : Int32))).1 82 ((m.1 72 25)).toNatClampNeg).toInt = (r33.2.1 82 ((m.1 72 25)).toNatClampNeg).toInt := congrArg Int32.toInt (r_cell (by decide))
                          have ki461 : zI (sm_w1 (sm_w1 (sm_w1 r33.2 72 26 ((r29.2.1 72 26) ||| (0 : Int32))) 83 ((m.1 72 25)).toNatClampNeg (-1 : Int32)) 72 25 ((r33.2.1 72 25) + (1 : Int32))) := zI.w25b ((m.1 72 25)).toNatClampNeg ki459 (show 0 ≤ (((r33.2.1 72 25) + (1 : Int32))).toInt ∧ (((r33.2.1 72 25) + (1 : Int32))).toInt ≤ 14 by omega) (show (((r33.2.1 72 25) + (1 : Int32))).toInt = ((sm_w1 (sm_w1 r33.2 72 26 ((r29.2.1 72 26) ||| (0 : Int32))) 83 ((m.1 72 25)).toNatClampNeg (-1 : Int32)).1 72 25).toInt + 1 by omega) (show ((((m.1 72 25)).toNatClampNeg : Nat) : Int) = ((sm_w1 (sm_w1 r33.2 72 26 ((r29.2.1 72 26) ||| (0 : Int32))) 83 ((m.1 72 25)).toNatClampNeg (-1 : Int32)).1 72 25).toInt by omega) (show 0 ≤ ((sm_w1 (sm_w1 r33.2 72 26 ((r29.2.1 72 26) ||| (0 : Int32))) 83 ((m.1 72 25)).toNatClampNeg (-1 : Int32)).1 76 ((m.1 72 25)).toNatClampNeg).toInt by omega) (show 0 ≤ ((sm_w1 (sm_w1 r33.2 72 26 ((r29.2.1 72 26) ||| (0 : Int32))) 83 ((m.1 72 25)).toNatClampNeg (-1 : Int32)).1 77 ((m.1 72 25)).toNatClampNeg).toInt by omega) (show 1 ≤ ((sm_w1 (sm_w1 r33.2 72 26 ((r29.2.1 72 26) ||| (0 : Int32))) 83 ((m.1 72 25)).toNatClampNeg (-1 : Int32)).1 78 ((m.1 72 25)).toNatClampNeg).toInt by omega) (show 0 ≤ ((sm_w1 (sm_w1 r33.2 72 26 ((r29.2.1 72 26) ||| (0 : Int32))) 83 ((m.1 72 25)).toNatClampNeg (-1 : Int32)).1 82 ((m.1 72 25)).toNatClampNeg).toInt by omega)
                          have kc497 : 0 ≤ ((sm_w1 (sm_w1 (sm_w1 r33.2 72 26 ((r29.2.1 72 26) ||| (0 : Int32))) 83 ((m.1 72 25)).toNatClampNeg (-1 : Int32)) 72 25 ((r33.2.1 72 25) + (1 : Int32))).1 72 22).toInt ∧ ((sm_w1 (sm_w1 (sm_w1 r33.2 72 26 ((r29.2.1 72 26) ||| (0 : Int32))) 83 ((m.1 72 25)).toNatClampNeg (-1 : Int32)) 72 25 ((r33.2.1 72 25) + (1 : Int32))).1 72 22).toInt ≤ 80 := ki461.1 72 22
                          have kc498 : ((sm_w1 (sm_w1 (sm_w1 r33.2 72 26 ((r29.2.1 72 26) ||| (0 : Int32))) 83 ((m.1 72 25)).toNatClampNeg (-1 : Int32)) 72 25 ((r33.2.1 72 25) + (1 : Int32))).1 72 22).toInt = ((sm_w1 (sm_w1 r33.2 72 26 ((r29.2.1 72 26) ||| (0 : Int32))) 83 ((m.1 72 25)).toNatClampNeg (-1 : Int32)).1 72 22).toInt := rfl
                          have kc499 : 0 ≤ ((sm_w1 (sm_w1 r33.2 72 26 ((r29.2.1 72 26) ||| (0 : Int32))) 83 ((m.1 72 25)).toNatClampNeg (-1 : Int32)).1 72 22).toInt ∧ ((sm_w1 (sm_w1 r33.2 72 26 ((r29.2.1 72 26) ||| (0 : Int32))) 83 ((m.1 72 25)).toNatClampNeg (-1 : Int32)).1 72 22).toInt ≤ 80 := ki459.1 72 22
                          have kc500 : ((sm_w1 (sm_w1 r33.2 72 26 ((r29.2.1 72 26) ||| (0 : Int32))) 83 ((m.1 72 25)).toNatClampNeg (-1 : Int32)).1 72 22).toInt = ((sm_w1 r33.2 72 26 ((r29.2.1 72 26) ||| (0 : Int32))).1 72 22).toInt := congrArg Int32.toInt (r_cell (by decide))
                          have kc501 : 0 ≤ ((sm_w1 r33.2 72 26 ((r29.2.1 72 26) ||| (0 : Int32))).1 72 22).toInt ∧ ((sm_w1 r33.2 72 26 ((r29.2.1 72 26) ||| (0 : Int32))).1 72 22).toInt ≤ 80 := ki458.1 72 22
                          have kc502 : ((sm_w1 r33.2 72 26 ((r29.2.1 72 26) ||| (0 : Int32))).1 72 22).toInt = (r33.2.1 72 22).toInt := rfl
                          have kf503 : Fr wX12_readsHedge m r2.2 := Fr.trans Fr.refl kf12 rfl
                          have kf504 : Fr wX12_readsHedge m (sm_w1 r2.2 76 ((m.1 72 25)).toNatClampNeg r2.1) := Fr.w kf503 rfl
                          have kf505 : Fr wX12_readsHedge m r7.2 := Fr.trans kf504 kf56 rfl
                          have kf506 : Fr wX12_readsHedge m (sm_w1 r7.2 77 ((m.1 72 25)).toNatClampNeg r7.1) := Fr.w kf505 rfl
                          have kf507 : Fr wX12_readsHedge m r11.2 := Fr.trans kf506 kf105 rfl
                          have kf508 : Fr wX12_readsHedge m (sm_w1 r11.2 78 ((m.1 72 25)).toNatClampNeg r11.1) := Fr.w kf507 rfl
                          have kf509 : Fr wX12_readsHedge m r15.2 := Fr.trans kf508 kf157 rfl
                          have kf510 : Fr wX12_readsHedge m r17.2 := Fr.trans kf509 kf207 rfl
                          have kf511 : Fr wX12_readsHedge m (sm_w1 r17.2 79 ((m.1 72 25)).toNatClampNeg r17.1) := Fr.w kf510 rfl
                          have kf512 : Fr wX12_readsHedge m r21.2 := Fr.trans kf511 kf235 rfl
                          have kf513 : Fr wX12_readsHedge m (sm_w1 r21.2 80 ((m.1 72 25)).toNatClampNeg r21.1) := Fr.w kf512 rfl
                          have kf514 : Fr wX12_readsHedge m r25.2 := Fr.trans kf513 kf285 rfl
                          have kf515 : Fr wX12_readsHedge m (sm_w1 r25.2 81 ((m.1 72 25)).toNatClampNeg (1 : Int32)) := Fr.w kf514 rfl
                          have kf516 : Fr wX12_readsHedge m r29.2 := Fr.trans kf515 kf336 rfl
                          have kf517 : Fr wX12_readsHedge m (sm_w1 r29.2 82 ((m.1 72 25)).toNatClampNeg (0 : Int32)) := Fr.w kf516 rfl
                          have kf518 : Fr wX12_readsHedge m r33.2 := Fr.trans kf517 kf393 rfl
                          have kf519 : Fr wX12_readsHedge m (sm_w1 r33.2 72 26 ((r29.2.1 72 26) ||| (0 : Int32))) := Fr.w kf518 rfl
                          have kf520 : Fr wX12_readsHedge m (sm_w1 (sm_w1 r33.2 72 26 ((r29.2.1 72 26) ||| (0 : Int32))) 83 ((m.1 72 25)).toNatClampNeg (-1 : Int32)) := Fr.w kf519 rfl
                          have kf521 : Fr wX12_readsHedge m (sm_w1 (sm_w1 (sm_w1 r33.2 72 26 ((r29.2.1 72 26) ||| (0 : Int32))) 83 ((m.1 72 25)).toNatClampNeg (-1 : Int32)) 72 25 ((r33.2.1 72 25) + (1 : Int32))) := Fr.w kf520 rfl
                          exact s_ret ⟨(show (0 ≤ (1 : Int32).toInt) ∧ ((1 : Int32).toInt ≤ 1) ∧ ((m.1 72 22).toInt ≤ ((sm_w1 (sm_w1 (sm_w1 r33.2 72 26 ((r29.2.1 72 26) ||| (0 : Int32))) 83 ((m.1 72 25)).toNatClampNeg (-1 : Int32)) 72 25 ((r33.2.1 72 25) + (1 : Int32))).1 72 22).toInt) by omega), ki461, kf521⟩
                        · refine s_ix kx41 ?_
                          have kc522 : 0 ≤ (r29.2.1 72 26).toInt ∧ (r29.2.1 72 26).toInt ≤ 16383 := ki335.1 72 26
                          have kc523 : (r29.2.1 72 26).toInt = ((sm_w1 r25.2 81 ((m.1 72 25)).toNatClampNeg (1 : Int32)).1 72 26).toInt := congrArg Int32.toInt (kf336 72 26 rfl)
                          have kc524 : 0 ≤ ((sm_w1 r25.2 81 ((m.1 72 25)).toNatClampNeg (1 : Int32)).1 72 26).toInt ∧ ((sm_w1 r25.2 81 ((m.1 72 25)).toNatClampNeg (1 : Int32)).1 72 26).toInt ≤ 16383 := ki328.1 72 26
                          have kc525 : ((sm_w1 r25.2 81 ((m.1 72 25)).toNatClampNeg (1 : Int32)).1 72 26).toInt = (r25.2.1 72 26).toInt := congrArg Int32.toInt (r_cell (by decide))
                          have kc526 : 0 ≤ (r25.2.1 72 26).toInt ∧ (r25.2.1 72 26).toInt ≤ 16383 := ki284.1 72 26
                          have kc527 : (r25.2.1 72 26).toInt = ((sm_w1 r21.2 80 ((m.1 72 25)).toNatClampNeg r21.1).1 72 26).toInt := congrArg Int32.toInt (kf285 72 26 rfl)
                          have kc528 : 0 ≤ ((sm_w1 r21.2 80 ((m.1 72 25)).toNatClampNeg r21.1).1 72 26).toInt ∧ ((sm_w1 r21.2 80 ((m.1 72 25)).toNatClampNeg r21.1).1 72 26).toInt ≤ 16383 := ki277.1 72 26
                          have kc529 : ((sm_w1 r21.2 80 ((m.1 72 25)).toNatClampNeg r21.1).1 72 26).toInt = (r21.2.1 72 26).toInt := congrArg Int32.toInt (r_cell (by decide))
                          have kc530 : 0 ≤ (r21.2.1 72 26).toInt ∧ (r21.2.1 72 26).toInt ≤ 16383 := ki234.1 72 26
                          have kc531 : (r21.2.1 72 26).toInt = ((sm_w1 r17.2 79 ((m.1 72 25)).toNatClampNeg r17.1).1 72 26).toInt := congrArg Int32.toInt (kf235 72 26 rfl)
                          have kc532 : 0 ≤ ((sm_w1 r17.2 79 ((m.1 72 25)).toNatClampNeg r17.1).1 72 26).toInt ∧ ((sm_w1 r17.2 79 ((m.1 72 25)).toNatClampNeg r17.1).1 72 26).toInt ≤ 16383 := ki228.1 72 26
                          have kc533 : ((sm_w1 r17.2 79 ((m.1 72 25)).toNatClampNeg r17.1).1 72 26).toInt = (r17.2.1 72 26).toInt := congrArg Int32.toInt (r_cell (by decide))
                          have kc534 : 0 ≤ (r17.2.1 72 26).toInt ∧ (r17.2.1 72 26).toInt ≤ 16383 := ki206.1 72 26
                          have kc535 : (r17.2.1 72 26).toInt = (r15.2.1 72 26).toInt := congrArg Int32.toInt (kf207 72 26 rfl)
                          have kc536 : 0 ≤ (r15.2.1 72 26).toInt ∧ (r15.2.1 72 26).toInt ≤ 16383 := ki156.1 72 26
                          have kc537 : (r15.2.1 72 26).toInt = ((sm_w1 r11.2 78 ((m.1 72 25)).toNatClampNeg r11.1).1 72 26).toInt := congrArg Int32.toInt (kf157 72 26 rfl)
                          have kc538 : 0 ≤ ((sm_w1 r11.2 78 ((m.1 72 25)).toNatClampNeg r11.1).1 72 26).toInt ∧ ((sm_w1 r11.2 78 ((m.1 72 25)).toNatClampNeg r11.1).1 72 26).toInt ≤ 16383 := ki135.1 72 26
                          have kc539 : ((sm_w1 r11.2 78 ((m.1 72 25)).toNatClampNeg r11.1).1 72 26).toInt = (r11.2.1 72 26).toInt := congrArg Int32.toInt (r_cell (by decide))
                          have kc540 : 0 ≤ (r11.2.1 72 26).toInt ∧ (r11.2.1 72 26).toInt ≤ 16383 := ki104.1 72 26
                          have kc541 : (r11.2.1 72 26).toInt = ((sm_w1 r7.2 77 ((m.1 72 25)).toNatClampNeg r7.1).1 72 26).toInt := congrArg Int32.toInt (kf105 72 26 rfl)
                          have kc542 : 0 ≤ ((sm_w1 r7.2 77 ((m.1 72 25)).toNatClampNeg r7.1).1 72 26).toInt ∧ ((sm_w1 r7.2 77 ((m.1 72 25)).toNatClampNeg r7.1).1 72 26).toInt ≤ 16383 := ki90.1 72 26
                          have kc543 : ((sm_w1 r7.2 77 ((m.1 72 25)).toNatClampNeg r7.1).1 72 26).toInt = (r7.2.1 72 26).toInt := congrArg Int32.toInt (r_cell (by decide))
                          have kc544 : 0 ≤ (r7.2.1 72 26).toInt ∧ (r7.2.1 72 26).toInt ≤ 16383 := ki55.1 72 26
                          have kc545 : (r7.2.1 72 26).toInt = ((sm_w1 r2.2 76 ((m.1 72 25)).toNatClampNeg r2.1).1 72 26).toInt := congrArg Int32.toInt (kf56 72 26 rfl)
                          have kc546 : 0 ≤ ((sm_w1 r2.2 76 ((m.1 72 25)).toNatClampNeg r2.1).1 72 26).toInt ∧ ((sm_w1 r2.2 76 ((m.1 72 25)).toNatClampNeg r2.1).1 72 26).toInt ≤ 16383 := ki43.1 72 26
                          have kc547 : ((sm_w1 r2.2 76 ((m.1 72 25)).toNatClampNeg r2.1).1 72 26).toInt = (r2.2.1 72 26).toInt := congrArg Int32.toInt (r_cell (by decide))
                          have kc548 : 0 ≤ (r2.2.1 72 26).toInt ∧ (r2.2.1 72 26).toInt ≤ 16383 := ki11.1 72 26
                          have kc549 : (r2.2.1 72 26).toInt = (m.1 72 26).toInt := congrArg Int32.toInt (kf12 72 26 rfl)
                          have kc550 : 0 ≤ (m.1 72 26).toInt ∧ (m.1 72 26).toInt ≤ 16383 := hI.1 72 26
                          have kc551 := L31
                          have kc552 : 0 ≤ ((m.1 72 25) &&& (31 : Int32)).toInt ∧ ((m.1 72 25) &&& (31 : Int32)).toInt ≤ ((31 : Int32)).toInt := a_andr (by omega)
                          have kc553 : 0 ≤ ((m.1 72 25) &&& (31 : Int32)).toInt ∧ ((m.1 72 25) &&& (31 : Int32)).toInt ≤ ((m.1 72 25)).toInt := a_andl (by omega)
                          have kc554 : 1 ≤ ((1 : Int32) <<< ((m.1 72 25) &&& (31 : Int32))).toInt ∧ ((1 : Int32) <<< ((m.1 72 25) &&& (31 : Int32))).toInt ≤ 8192 := a_shl 13 (by decide) (by decide) (by omega) (by omega)
                          have kc555 : 0 ≤ ((r29.2.1 72 26) ||| ((1 : Int32) <<< ((m.1 72 25) &&& (31 : Int32)))).toInt ∧ ((r29.2.1 72 26) ||| ((1 : Int32) <<< ((m.1 72 25) &&& (31 : Int32)))).toInt < 16384 := a_or 14 (by decide) (by decide) (by omega) (by omega) (by omega) (by omega)
                          have ki556 : zI (sm_w1 r33.2 72 26 ((r29.2.1 72 26) ||| ((1 : Int32) <<< ((m.1 72 25) &&& (31 : Int32))))) := zI.w ki392 rfl (show 0 ≤ (((r29.2.1 72 26) ||| ((1 : Int32) <<< ((m.1 72 25) &&& (31 : Int32))))).toInt ∧ (((r29.2.1 72 26) ||| ((1 : Int32) <<< ((m.1 72 25) &&& (31 : Int32))))).toInt ≤ 16383 by omega)
                          have ki557 : zI (sm_w1 (sm_w1 r33.2 72 26 ((r29.2.1 72 26) ||| ((1 : Int32) <<< ((m.1 72 25) &&& (31 : Int32))))) 83 ((m.1 72 25)).toNatClampNeg (-1 : Int32)) := zI.w ki556 rfl (rg _)
                          have kc558 : ((r33.2.1 72 25) + (1 : Int32)).toInt = ((r33.2.1 72 25)).toInt + 1 := a_addl L1 (by omega) (by omega)
                          have kc560 : 0 ≤ ((sm_w1 (sm_w1 r33.2 72 26 ((r29.2.1 72 26) ||| ((1 : Int32) <<< ((m.1 72 25) &&& (31 : Int32))))) 83 ((m.1 72 25)).toNatClampNeg (-1 : Int32)).1 72 6).toInt ∧ ((sm_w1 (sm_w1 r33.2 72 26 ((r29.2.1 72 26) ||| ((1 : Int32) <<< ((m.1 72 25) &&& (31 : Int32))))) 83 ((m.1 72 25)).toNatClampNeg (-1 : Int32)).1 72 6).toInt ≤ 14 := ki557.1 72 6
                          have kc561 : 0 ≤ ((sm_w1 (sm_w1 r33.2 72 26 ((r29.2.1 72 26) ||| ((1 : Int32) <<< ((m.1 72 25) &&& (31 : Int32))))) 83 ((m.1 72 25)).toNatClampNeg (-1 : Int32)).1 72 25).toInt ∧ ((sm_w1 (sm_w1 r33.2 72 26 ((r29.2.1 72 26) ||| ((1 : Int32) <<< ((m.1 72 25) &&& (31 : Int32))))) 83 ((m.1 72 25)).toNatClampNeg (-1 : Int32)).1 72 25).toInt ≤ 14 := ki557.1 72 25
                          have kc562 := zI.le ki557
                          have kc563 : ((sm_w1 (sm_w1 r33.2 72 26 ((r29.2.1 72 26) ||| ((1 : Int32) <<< ((m.1 72 25) &&& (31 : Int32))))) 83 ((m.1 72 25)).toNatClampNeg (-1 : Int32)).1 72 25).toInt = ((sm_w1 r33.2 72 26 ((r29.2.1 72 26) ||| ((1 : Int32) <<< ((m.1 72 25) &&& (31 : Int32))))).1 72 25).toInt := congrArg Int32.toInt (r_cell (by decide))
                          have kc564 : 0 ≤ ((sm_w1 r33.2 72 26 ((r29.2.1 72 26) ||| ((1 : Int32) <<< ((m.1 72 25) &&& (31 : Int32))))).1 72 25).toInt ∧ ((sm_w1 r33.2 72 26 ((r29.2.1 72 26) ||| ((1 : Int32) <<< ((m.1 72 25) &&& (31 : Int32))))).1 72 25).toInt ≤ 14 := ki556.1 72 25
                          have kc565 : 0 ≤ ((sm_w1 r33.2 72 26 ((r29.2.1 72 26) ||| ((1 : Int32) <<< ((m.1 72 25) &&& (31 : Int32))))).1 72 6).toInt ∧ ((sm_w1 r33.2 72 26 ((r29.2.1 72 26) ||| ((1 : Int32) <<< ((m.1 72 25) &&& (31 : Int32))))).1 72 6).toInt ≤ 14 := ki556.1 72 6
                          have kc566 := zI.le ki556
                          have kc567 : ((sm_w1 r33.2 72 26 ((r29.2.1 72 26) ||| ((1 : Int32) <<< ((m.1 72 25) &&& (31 : Int32))))).1 72 6).toInt = (r33.2.1 72 6).toInt := rfl
                          have kc568 : ((sm_w1 r33.2 72 26 ((r29.2.1 72 26) ||| ((1 : Int32) <<< ((m.1 72 25) &&& (31 : Int32))))).1 72 25).toInt = (r33.2.1 72 25).toInt := rfl
                          have kc569 : ((sm_w1 (sm_w1 r33.2 72 26 ((r29.2.1 72 26) ||| ((1 : Int32) <<< ((m.1 72 25) &&& (31 : Int32))))) 83 ((m.1 72 25)).toNatClampNeg (-1 : Int32)).1 72 6).toInt = ((sm_w1 r33.2 72 26 ((r29.2.1 72 26) ||| ((1 : Int32) <<< ((m.1 72 25) &&& (31 : Int32))))).1 72 6).toInt := congrArg Int32.toInt (r_cell (by decide))
                          have kc570 := a_tn (show 0 ≤ (m.1 72 25).toInt by omega)
                          have kc571 : (-1 : Int) ≤ ((sm_w1 (sm_w1 r33.2 72 26 ((r29.2.1 72 26) ||| ((1 : Int32) <<< ((m.1 72 25) &&& (31 : Int32))))) 83 ((m.1 72 25)).toNatClampNeg (-1 : Int32)).1 76 ((m.1 72 25)).toNatClampNeg).toInt ∧ ((sm_w1 (sm_w1 r33.2 72 26 ((r29.2.1 72 26) ||| ((1 : Int32) <<< ((m.1 72 25) &&& (31 : Int32))))) 83 ((m.1 72 25)).toNatClampNeg (-1 : Int32)).1 76 ((m.1 72 25)).toNatClampNeg).toInt ≤ 9 := ki557.1 76 ((m.1 72 25)).toNatClampNeg
                          have kc572 := zI.pf76 ki557 (m.1 72 25)
                          have kc573 : ((sm_w1 (sm_w1 r33.2 72 26 ((r29.2.1 72 26) ||| ((1 : Int32) <<< ((m.1 72 25) &&& (31 : Int32))))) 83 ((m.1 72 25)).toNatClampNeg (-1 : Int32)).1 76 ((m.1 72 25)).toNatClampNeg).toInt = ((sm_w1 r33.2 72 26 ((r29.2.1 72 26) ||| ((1 : Int32) <<< ((m.1 72 25) &&& (31 : Int32))))).1 76 ((m.1 72 25)).toNatClampNeg).toInt := congrArg Int32.toInt (r_cell (by decide))
                          have kc574 : (-1 : Int) ≤ ((sm_w1 r33.2 72 26 ((r29.2.1 72 26) ||| ((1 : Int32) <<< ((m.1 72 25) &&& (31 : Int32))))).1 76 ((m.1 72 25)).toNatClampNeg).toInt ∧ ((sm_w1 r33.2 72 26 ((r29.2.1 72 26) ||| ((1 : Int32) <<< ((m.1 72 25) &&& (31 : Int32))))).1 76 ((m.1 72 25)).toNatClampNeg).toInt ≤ 9 := ki556.1 76 ((m.1 72 25)).toNatClampNeg
                          have kc575 := zI.pf76 ki556 (m.1 72 25)
                          have kc576 : ((sm_w1 r33.2 72 26 ((r29.2.1 72 26) ||| ((1 : Int32) <<< ((m.1 72 25) &&& (31 : Int32))))).1 76 ((m.1 72 25)).toNatClampNeg).toInt = (r33.2.1 76 ((m.1 72 25)).toNatClampNeg).toInt := congrArg Int32.toInt (r_cell (by decide))
                          have kc577 : (-1 : Int) ≤ ((sm_w1 (sm_w1 r33.2 72 26 ((r29.2.1 72 26) ||| ((1 : Int32) <<< ((m.1 72 25) &&& (31 : Int32))))) 83 ((m.1 72 25)).toNatClampNeg (-1 : Int32)).1 77 ((m.1 72 25)).toNatClampNeg).toInt ∧ ((sm_w1 (sm_w1 r33.2 72 26 ((r29.2.1 72 26) ||| ((1 : Int32) <<< ((m.1 72 25) &&& (31 : Int32))))) 83 ((m.1 72 25)).toNatClampNeg (-1 : Int32)).1 77 ((m.1 72 25)).toNatClampNeg).toInt ≤ 9 := ki557.1 77 ((m.1 72 25)).toNatClampNeg
                          have kc578 := zI.pf77 ki557 (m.1 72 25)
                          have kc579 : ((sm_w1 (sm_w1 r33.2 72 26 ((r29.2.1 72 26) ||| ((1 : Int32) <<< ((m.1 72 25) &&& (31 : Int32))))) 83 ((m.1 72 25)).toNatClampNeg (-1 : Int32)).1 77 ((m.1 72 25)).toNatClampNeg).toInt = ((sm_w1 r33.2 72 26 ((r29.2.1 72 26) ||| ((1 : Int32) <<< ((m.1 72 25) &&& (31 : Int32))))).1 77 ((m.1 72 25)).toNatClampNeg).toInt := congrArg Int32.toInt (r_cell (by decide))
                          have kc580 : (-1 : Int) ≤ ((sm_w1 r33.2 72 26 ((r29.2.1 72 26) ||| ((1 : Int32) <<< ((m.1 72 25) &&& (31 : Int32))))).1 77 ((m.1 72 25)).toNatClampNeg).toInt ∧ ((sm_w1 r33.2 72 26 ((r29.2.1 72 26) ||| ((1 : Int32) <<< ((m.1 72 25) &&& (31 : Int32))))).1 77 ((m.1 72 25)).toNatClampNeg).toInt ≤ 9 := ki556.1 77 ((m.1 72 25)).toNatClampNeg
                          have kc581 := zI.pf77 ki556 (m.1 72 25)
                          have kc582 : ((sm_w1 r33.2 72 26 ((r29.2.1 72 26) ||| ((1 : Int32) <<< ((m.1 72 25) &&& (31 : Int32))))).1 77 ((m.1 72 25)).toNatClampNeg).toInt = (r33.2.1 77 ((m.1 72 25)).toNatClampNeg).toInt := congrArg Int32.toInt (r_cell (by decide))
                          have kc583 : (-1 : Int) ≤ ((sm_w1 (sm_w1 r33.2 72 26 ((r29.2.1 72 26) ||| ((1 : Int32) <<< ((m.1 72 25) &&& (31 : Int32))))) 83 ((m.1 72 25)).toNatClampNeg (-1 : Int32)).1 78 ((m.1 72 25)).toNatClampNeg).toInt ∧ ((sm_w1 (sm_w1 r33.2 72 26 ((r29.2.1 72 26) ||| ((1 : Int32) <<< ((m.1 72 25) &&& (31 : Int32))))) 83 ((m.1 72 25)).toNatClampNeg (-1 : Int32)).1 78 ((m.1 72 25)).toNatClampNeg).toInt ≤ 20 := ki557.1 78 ((m.1 72 25)).toNatClampNeg
                          have kc584 := zI.pf78 ki557 (m.1 72 25)
                          have kc585 : ((sm_w1 (sm_w1 r33.2 72 26 ((r29.2.1 72 26) ||| ((1 : Int32) <<< ((m.1 72 25) &&& (31 : Int32))))) 83 ((m.1 72 25)).toNatClampNeg (-1 : Int32)).1 78 ((m.1 72 25)).toNatClampNeg).toInt = ((sm_w1 r33.2 72 26 ((r29.2.1 72 26) ||| ((1 : Int32) <<< ((m.1 72 25) &&& (31 : Int32))))).1 78 ((m.1 72 25)).toNatClampNeg).toInt := congrArg Int32.toInt (r_cell (by decide))
                          have kc586 : (-1 : Int) ≤ ((sm_w1 r33.2 72 26 ((r29.2.1 72 26) ||| ((1 : Int32) <<< ((m.1 72 25) &&& (31 : Int32))))).1 78 ((m.1 72 25)).toNatClampNeg).toInt ∧ ((sm_w1 r33.2 72 26 ((r29.2.1 72 26) ||| ((1 : Int32) <<< ((m.1 72 25) &&& (31 : Int32))))).1 78 ((m.1 72 25)).toNatClampNeg).toInt ≤ 20 := ki556.1 78 ((m.1 72 25)).toNatClampNeg
                          have kc587 := zI.pf78 ki556 (m.1 72 25)
                          have kc588 : ((sm_w1 r33.2 72 26 ((r29.2.1 72 26) ||| ((1 : Int32) <<< ((m.1 72 25) &&& (31 : Int32))))).1 78 ((m.1 72 25)).toNatClampNeg).toInt = (r33.2.1 78 ((m.1 72 25)).toNatClampNeg).toInt := congrArg Int32.toInt (r_cell (by decide))
                          have kc589 : (-1 : Int) ≤ ((sm_w1 (sm_w1 r33.2 72 26 ((r29.2.1 72 26) ||| ((1 : Int32) <<< ((m.1 72 25) &&& (31 : Int32))))) 83 ((m.1 72 25)).toNatClampNeg (-1 : Int32)).1 82 ((m.1 72 25)).toNatClampNeg).toInt ∧ ((sm_w1 (sm_w1 r33.2 72 26 ((r29.2.1 72 26) ||| ((1 : Int32) <<< ((m.1 72 25) &&& (31 : Int32))))) 83 ((m.1 72 25)).toNatClampNeg (-1 : Int32)).1 82 ((m.1 72 25)).toNatClampNeg).toInt ≤ 9 := ki557.1 82 ((m.1 72 25)).toNatClampNeg
                          have kc590 := zI.pf82 ki557 (m.1 72 25)
                          have kc591 : ((sm_w1 (sm_w1 r33.2 72 26 ((r29.2.1 72 26) ||| ((1 : Int32) <<< ((m.1 72 25) &&& (31 : Int32))))) 83 ((m.1 72 25)).toNatClampNeg (-1 : Int32)).1 82 ((m.1 72 25)).toNatClampNeg).toInt = ((sm_w1 r33.2 72 26 ((r29.2.1 72 26) ||| ((1 : Int32) <<< ((m.1 72 25) &&& (31 : Int32))))).1 82 ((m.1 72 25)).toNatClampNeg).toInt := congrArg Int32.toInt (r_cell (by decide))
                          have kc592 : (-1 : Int) ≤ ((sm_w1 r33.2 72 26 ((r29.2.1 72 26) ||| ((1 : Int32) <<< ((m.1 72 25) &&& (31 : Int32))))).1 82 ((m.1 72 25)).toNatClampNeg).toInt ∧ ((sm_w1 r33.2 72 26 ((r29.2.1 72 26) ||| ((1 : Int32) <<< ((m.1 72 25) &&& (31 : Int32))))).1 82 ((m.1 72 25)).toNatClampNeg).toInt ≤ 9 := ki556.1 82 ((m.1 72 25)).toNatClampNeg
                          have kc593 := zI.pf82 ki556 (m.1 72 25)
                          have kc594 : ((sm_w1 r33.2 72 26 ((r29.2.1 72 26) ||| ((1 : Int32) <<< ((m.1 72 25) &&& (31 : Int32))))).1 82 ((m.1 72 25)).toNatClampNeg).toInt = (r33.2.1 82 ((m.1 72 25)).toNatClampNeg).toInt := congrArg Int32.toInt (r_cell (by decide))
                          have ki559 : zI (sm_w1 (sm_w1 (sm_w1 r33.2 72 26 ((r29.2.1 72 26) ||| ((1 : Int32) <<< ((m.1 72 25) &&& (31 : Int32))))) 83 ((m.1 72 25)).toNatClampNeg (-1 : Int32)) 72 25 ((r33.2.1 72 25) + (1 : Int32))) := zI.w25b ((m.1 72 25)).toNatClampNeg ki557 (show 0 ≤ (((r33.2.1 72 25) + (1 : Int32))).toInt ∧ (((r33.2.1 72 25) + (1 : Int32))).toInt ≤ 14 by omega) (show (((r33.2.1 72 25) + (1 : Int32))).toInt = ((sm_w1 (sm_w1 r33.2 72 26 ((r29.2.1 72 26) ||| ((1 : Int32) <<< ((m.1 72 25) &&& (31 : Int32))))) 83 ((m.1 72 25)).toNatClampNeg (-1 : Int32)).1 72 25).toInt + 1 by omega) (show ((((m.1 72 25)).toNatClampNeg : Nat) : Int) = ((sm_w1 (sm_w1 r33.2 72 26 ((r29.2.1 72 26) ||| ((1 : Int32) <<< ((m.1 72 25) &&& (31 : Int32))))) 83 ((m.1 72 25)).toNatClampNeg (-1 : Int32)).1 72 25).toInt by omega) (show 0 ≤ ((sm_w1 (sm_w1 r33.2 72 26 ((r29.2.1 72 26) ||| ((1 : Int32) <<< ((m.1 72 25) &&& (31 : Int32))))) 83 ((m.1 72 25)).toNatClampNeg (-1 : Int32)).1 76 ((m.1 72 25)).toNatClampNeg).toInt by omega) (show 0 ≤ ((sm_w1 (sm_w1 r33.2 72 26 ((r29.2.1 72 26) ||| ((1 : Int32) <<< ((m.1 72 25) &&& (31 : Int32))))) 83 ((m.1 72 25)).toNatClampNeg (-1 : Int32)).1 77 ((m.1 72 25)).toNatClampNeg).toInt by omega) (show 1 ≤ ((sm_w1 (sm_w1 r33.2 72 26 ((r29.2.1 72 26) ||| ((1 : Int32) <<< ((m.1 72 25) &&& (31 : Int32))))) 83 ((m.1 72 25)).toNatClampNeg (-1 : Int32)).1 78 ((m.1 72 25)).toNatClampNeg).toInt by omega) (show 0 ≤ ((sm_w1 (sm_w1 r33.2 72 26 ((r29.2.1 72 26) ||| ((1 : Int32) <<< ((m.1 72 25) &&& (31 : Int32))))) 83 ((m.1 72 25)).toNatClampNeg (-1 : Int32)).1 82 ((m.1 72 25)).toNatClampNeg).toInt by omega)
                          have kc595 : 0 ≤ ((sm_w1 (sm_w1 (sm_w1 r33.2 72 26 ((r29.2.1 72 26) ||| ((1 : Int32) <<< ((m.1 72 25) &&& (31 : Int32))))) 83 ((m.1 72 25)).toNatClampNeg (-1 : Int32)) 72 25 ((r33.2.1 72 25) + (1 : Int32))).1 72 22).toInt ∧ ((sm_w1 (sm_w1 (sm_w1 r33.2 72 26 ((r29.2.1 72 26) ||| ((1 : Int32) <<< ((m.1 72 25) &&& (31 : Int32))))) 83 ((m.1 72 25)).toNatClampNeg (-1 : Int32)) 72 25 ((r33.2.1 72 25) + (1 : Int32))).1 72 22).toInt ≤ 80 := ki559.1 72 22
                          have kc596 : ((sm_w1 (sm_w1 (sm_w1 r33.2 72 26 ((r29.2.1 72 26) ||| ((1 : Int32) <<< ((m.1 72 25) &&& (31 : Int32))))) 83 ((m.1 72 25)).toNatClampNeg (-1 : Int32)) 72 25 ((r33.2.1 72 25) + (1 : Int32))).1 72 22).toInt = ((sm_w1 (sm_w1 r33.2 72 26 ((r29.2.1 72 26) ||| ((1 : Int32) <<< ((m.1 72 25) &&& (31 : Int32))))) 83 ((m.1 72 25)).toNatClampNeg (-1 : Int32)).1 72 22).toInt := rfl
                          have kc597 : 0 ≤ ((sm_w1 (sm_w1 r33.2 72 26 ((r29.2.1 72 26) ||| ((1 : Int32) <<< ((m.1 72 25) &&& (31 : Int32))))) 83 ((m.1 72 25)).toNatClampNeg (-1 : Int32)).1 72 22).toInt ∧ ((sm_w1 (sm_w1 r33.2 72 26 ((r29.2.1 72 26) ||| ((1 : Int32) <<< ((m.1 72 25) &&& (31 : Int32))))) 83 ((m.1 72 25)).toNatClampNeg (-1 : Int32)).1 72 22).toInt ≤ 80 := ki557.1 72 22
                          have kc598 : ((sm_w1 (sm_w1 r33.2 72 26 ((r29.2.1 72 26) ||| ((1 : Int32) <<< ((m.1 72 25) &&& (31 : Int32))))) 83 ((m.1 72 25)).toNatClampNeg (-1 : Int32)).1 72 22).toInt = ((sm_w1 r33.2 72 26 ((r29.2.1 72 26) ||| ((1 : Int32) <<< ((m.1 72 25) &&& (31 : Int32))))).1 72 22).toInt := congrArg Int32.toInt (r_cell (by decide))
                          have kc599 : 0 ≤ ((sm_w1 r33.2 72 26 ((r29.2.1 72 26) ||| ((1 : Int32) <<< ((m.1 72 25) &&& (31 : Int32))))).1 72 22).toInt ∧ ((sm_w1 r33.2 72 26 ((r29.2.1 72 26) ||| ((1 : Int32) <<< ((m.1 72 25) &&& (31 : Int32))))).1 72 22).toInt ≤ 80 := ki556.1 72 22
                          have kc600 : ((sm_w1 r33.2 72 26 ((r29.2.1 72 26) ||| ((1 : Int32) <<< ((m.1 72 25) &&& (31 : Int32))))).1 72 22).toInt = (r33.2.1 72 22).toInt := rfl
                          have kf601 : Fr wX12_readsHedge m r2.2 := Fr.trans Fr.refl kf12 rfl
                          have kf602 : Fr wX12_readsHedge m (sm_w1 r2.2 76 ((m.1 72 25)).toNatClampNeg r2.1) := Fr.w kf601 rfl
                          have kf603 : Fr wX12_readsHedge m r7.2 := Fr.trans kf602 kf56 rfl
                          have kf604 : Fr wX12_readsHedge m (sm_w1 r7.2 77 ((m.1 72 25)).toNatClampNeg r7.1) := Fr.w kf603 rfl
                          have kf605 : Fr wX12_readsHedge m r11.2 := Fr.trans kf604 kf105 rfl
                          have kf606 : Fr wX12_readsHedge m (sm_w1 r11.2 78 ((m.1 72 25)).toNatClampNeg r11.1) := Fr.w kf605 rfl
                          have kf607 : Fr wX12_readsHedge m r15.2 := Fr.trans kf606 kf157 rfl
                          have kf608 : Fr wX12_readsHedge m r17.2 := Fr.trans kf607 kf207 rfl
                          have kf609 : Fr wX12_readsHedge m (sm_w1 r17.2 79 ((m.1 72 25)).toNatClampNeg r17.1) := Fr.w kf608 rfl
                          have kf610 : Fr wX12_readsHedge m r21.2 := Fr.trans kf609 kf235 rfl
                          have kf611 : Fr wX12_readsHedge m (sm_w1 r21.2 80 ((m.1 72 25)).toNatClampNeg r21.1) := Fr.w kf610 rfl
                          have kf612 : Fr wX12_readsHedge m r25.2 := Fr.trans kf611 kf285 rfl
                          have kf613 : Fr wX12_readsHedge m (sm_w1 r25.2 81 ((m.1 72 25)).toNatClampNeg (1 : Int32)) := Fr.w kf612 rfl
                          have kf614 : Fr wX12_readsHedge m r29.2 := Fr.trans kf613 kf336 rfl
                          have kf615 : Fr wX12_readsHedge m (sm_w1 r29.2 82 ((m.1 72 25)).toNatClampNeg (0 : Int32)) := Fr.w kf614 rfl
                          have kf616 : Fr wX12_readsHedge m r33.2 := Fr.trans kf615 kf393 rfl
                          have kf617 : Fr wX12_readsHedge m (sm_w1 r33.2 72 26 ((r29.2.1 72 26) ||| ((1 : Int32) <<< ((m.1 72 25) &&& (31 : Int32))))) := Fr.w kf616 rfl
                          have kf618 : Fr wX12_readsHedge m (sm_w1 (sm_w1 r33.2 72 26 ((r29.2.1 72 26) ||| ((1 : Int32) <<< ((m.1 72 25) &&& (31 : Int32))))) 83 ((m.1 72 25)).toNatClampNeg (-1 : Int32)) := Fr.w kf617 rfl
                          have kf619 : Fr wX12_readsHedge m (sm_w1 (sm_w1 (sm_w1 r33.2 72 26 ((r29.2.1 72 26) ||| ((1 : Int32) <<< ((m.1 72 25) &&& (31 : Int32))))) 83 ((m.1 72 25)).toNatClampNeg (-1 : Int32)) 72 25 ((r33.2.1 72 25) + (1 : Int32))) := Fr.w kf618 rfl
                          exact s_ret ⟨(show (0 ≤ (1 : Int32).toInt) ∧ ((1 : Int32).toInt ≤ 1) ∧ ((m.1 72 22).toInt ≤ ((sm_w1 (sm_w1 (sm_w1 r33.2 72 26 ((r29.2.1 72 26) ||| ((1 : Int32) <<< ((m.1 72 25) &&& (31 : Int32))))) 83 ((m.1 72 25)).toNatClampNeg (-1 : Int32)) 72 25 ((r33.2.1 72 25) + (1 : Int32))).1 72 22).toInt) by omega), ki559, kf619⟩
                      · omega
                    · have kc620 := L9
                      refine s_bd (zX12_digit (9 : Int32) r29.2 (show 5 ≤ (9 : Int32).toInt ∧ (9 : Int32).toInt ≤ 9 by omega) ki335) (fun r37 kr621 => ?_)
                      obtain ⟨kp622, ki623, kf624⟩ := kr621
                      replace kp622 : ((-1 : Int) ≤ r37.1.toInt) ∧ (r37.1.toInt ≤ 9) ∧ ((r37.1.toInt < 0 ∧ (r37.2.1 72 22).toInt = (r29.2.1 72 22).toInt) ∨ (0 ≤ r37.1.toInt ∧ (r29.2.1 72 22).toInt < (r29.2.1 72 23).toInt ∧ (r37.2.1 72 22).toInt = (r29.2.1 72 22).toInt + 1)) := kp622
                      have kc625 : 0 ≤ (r37.2.1 72 22).toInt ∧ (r37.2.1 72 22).toInt ≤ 80 := ki623.1 72 22
                      have kc626 : 0 ≤ (r29.2.1 72 23).toInt ∧ (r29.2.1 72 23).toInt ≤ 76 := ki335.1 72 23
                      have kc627 : (r29.2.1 72 23).toInt = ((sm_w1 r25.2 81 ((m.1 72 25)).toNatClampNeg (1 : Int32)).1 72 23).toInt := congrArg Int32.toInt (kf336 72 23 rfl)
                      have kc628 : (-1 : Int) ≤ (r37.2.1 76 ((m.1 72 25)).toNatClampNeg).toInt ∧ (r37.2.1 76 ((m.1 72 25)).toNatClampNeg).toInt ≤ 9 := ki623.1 76 ((m.1 72 25)).toNatClampNeg
                      have kc629 : 0 ≤ (r37.2.1 72 6).toInt ∧ (r37.2.1 72 6).toInt ≤ 14 := ki623.1 72 6
                      have kc630 : 0 ≤ (r37.2.1 72 25).toInt ∧ (r37.2.1 72 25).toInt ≤ 14 := ki623.1 72 25
                      have kc631 := zI.le ki623
                      have kc632 : (r37.2.1 72 25).toInt = (r29.2.1 72 25).toInt := congrArg Int32.toInt (kf624 72 25 rfl)
                      have kc633 : (r37.2.1 72 6).toInt = (r29.2.1 72 6).toInt := congrArg Int32.toInt (kf624 72 6 rfl)
                      have kc634 := zI.pf76 ki623 (m.1 72 25)
                      have kc635 : (r37.2.1 76 ((m.1 72 25)).toNatClampNeg).toInt = (r29.2.1 76 ((m.1 72 25)).toNatClampNeg).toInt := congrArg Int32.toInt (kf624 76 ((m.1 72 25)).toNatClampNeg rfl)
                      have kc636 : (-1 : Int) ≤ (r37.2.1 77 ((m.1 72 25)).toNatClampNeg).toInt ∧ (r37.2.1 77 ((m.1 72 25)).toNatClampNeg).toInt ≤ 9 := ki623.1 77 ((m.1 72 25)).toNatClampNeg
                      have kc637 := zI.pf77 ki623 (m.1 72 25)
                      have kc638 : (r37.2.1 77 ((m.1 72 25)).toNatClampNeg).toInt = (r29.2.1 77 ((m.1 72 25)).toNatClampNeg).toInt := congrArg Int32.toInt (kf624 77 ((m.1 72 25)).toNatClampNeg rfl)
                      have kc639 : (-1 : Int) ≤ (r37.2.1 78 ((m.1 72 25)).toNatClampNeg).toInt ∧ (r37.2.1 78 ((m.1 72 25)).toNatClampNeg).toInt ≤ 20 := ki623.1 78 ((m.1 72 25)).toNatClampNeg
                      have kc640 := zI.pf78 ki623 (m.1 72 25)
                      have kc641 : (r37.2.1 78 ((m.1 72 25)).toNatClampNeg).toInt = (r29.2.1 78 ((m.1 72 25)).toNatClampNeg).toInt := congrArg Int32.toInt (kf624 78 ((m.1 72 25)).toNatClampNeg rfl)
                      have kc642 : (-1 : Int) ≤ (r37.2.1 82 ((m.1 72 25)).toNatClampNeg).toInt ∧ (r37.2.1 82 ((m.1 72 25)).toNatClampNeg).toInt ≤ 9 := ki623.1 82 ((m.1 72 25)).toNatClampNeg
                      have kc643 := zI.pf82 ki623 (m.1 72 25)
                      have kc644 : (r37.2.1 82 ((m.1 72 25)).toNatClampNeg).toInt = (r29.2.1 82 ((m.1 72 25)).toNatClampNeg).toInt := congrArg Int32.toInt (kf624 82 ((m.1 72 25)).toNatClampNeg rfl)
                      refine s_ix kx41 ?_
                      refine s_ix kx41 ?_
                      have ki645 : zI (sm_w1 r37.2 82 ((m.1 72 25)).toNatClampNeg r37.1) := zI.w82 ki623 (show (-1 : Int) ≤ (r37.1).toInt ∧ (r37.1).toInt ≤ 9 by omega) (show 0 ≤ (r37.1).toInt ∨ (r37.2.1 72 25).toInt ≤ ((m.1 72 25)).toInt by omega) (show 0 ≤ ((m.1 72 25)).toInt by omega)
                      have kc646 : (-1 : Int) ≤ ((sm_w1 r37.2 82 ((m.1 72 25)).toNatClampNeg r37.1).1 82 ((m.1 72 25)).toNatClampNeg).toInt ∧ ((sm_w1 r37.2 82 ((m.1 72 25)).toNatClampNeg r37.1).1 82 ((m.1 72 25)).toNatClampNeg).toInt ≤ 9 := ki645.1 82 ((m.1 72 25)).toNatClampNeg
                      have kc647 : 0 ≤ ((sm_w1 r37.2 82 ((m.1 72 25)).toNatClampNeg r37.1).1 72 6).toInt ∧ ((sm_w1 r37.2 82 ((m.1 72 25)).toNatClampNeg r37.1).1 72 6).toInt ≤ 14 := ki645.1 72 6
                      have kc648 : 0 ≤ ((sm_w1 r37.2 82 ((m.1 72 25)).toNatClampNeg r37.1).1 72 25).toInt ∧ ((sm_w1 r37.2 82 ((m.1 72 25)).toNatClampNeg r37.1).1 72 25).toInt ≤ 14 := ki645.1 72 25
                      have kc649 := zI.le ki645
                      have kc650 : ((sm_w1 r37.2 82 ((m.1 72 25)).toNatClampNeg r37.1).1 72 25).toInt = (r37.2.1 72 25).toInt := congrArg Int32.toInt (r_cell (by decide))
                      have kc651 : ((sm_w1 r37.2 82 ((m.1 72 25)).toNatClampNeg r37.1).1 72 6).toInt = (r37.2.1 72 6).toInt := congrArg Int32.toInt (r_cell (by decide))
                      have kc652 := zI.pf82 ki645 (m.1 72 25)
                      have kc653 : ((sm_w1 r37.2 82 ((m.1 72 25)).toNatClampNeg r37.1).1 82 ((m.1 72 25)).toNatClampNeg).toInt = (r37.1).toInt := congrArg Int32.toInt r_hit
                      refine s_le (fun kh654 => ?_) (fun kh654 => ?_)
                      · have kc655 := L103
                        refine s_bd (zX12_takes (103 : Int32) (sm_w1 r37.2 82 ((m.1 72 25)).toNatClampNeg r37.1) (show 58 ≤ (103 : Int32).toInt ∧ (103 : Int32).toInt ≤ 126 by omega) ki645) (fun r41 kr656 => ?_)
                        obtain ⟨kp657, ki658, kf659⟩ := kr656
                        replace kp657 : (0 ≤ r41.1.toInt) ∧ (r41.1.toInt ≤ 1) ∧ ((r41.1.toInt = 0 ∧ (r41.2.1 72 22).toInt = ((sm_w1 r37.2 82 ((m.1 72 25)).toNatClampNeg r37.1).1 72 22).toInt) ∨ (r41.1.toInt = 1 ∧ ((sm_w1 r37.2 82 ((m.1 72 25)).toNatClampNeg r37.1).1 72 22).toInt < ((sm_w1 r37.2 82 ((m.1 72 25)).toNatClampNeg r37.1).1 72 23).toInt ∧ (r41.2.1 72 22).toInt = ((sm_w1 r37.2 82 ((m.1 72 25)).toNatClampNeg r37.1).1 72 22).toInt + 1)) := kp657
                        have kc660 : 0 ≤ (r41.2.1 72 22).toInt ∧ (r41.2.1 72 22).toInt ≤ 80 := ki658.1 72 22
                        have kc661 : 0 ≤ ((sm_w1 r37.2 82 ((m.1 72 25)).toNatClampNeg r37.1).1 72 22).toInt ∧ ((sm_w1 r37.2 82 ((m.1 72 25)).toNatClampNeg r37.1).1 72 22).toInt ≤ 80 := ki645.1 72 22
                        have kc662 : ((sm_w1 r37.2 82 ((m.1 72 25)).toNatClampNeg r37.1).1 72 22).toInt = (r37.2.1 72 22).toInt := congrArg Int32.toInt (r_cell (by decide))
                        have kc663 : 0 ≤ ((sm_w1 r37.2 82 ((m.1 72 25)).toNatClampNeg r37.1).1 72 23).toInt ∧ ((sm_w1 r37.2 82 ((m.1 72 25)).toNatClampNeg r37.1).1 72 23).toInt ≤ 76 := ki645.1 72 23
                        have kc664 : ((sm_w1 r37.2 82 ((m.1 72 25)).toNatClampNeg r37.1).1 72 23).toInt = (r37.2.1 72 23).toInt := congrArg Int32.toInt (r_cell (by decide))
                        have kc665 : 0 ≤ (r37.2.1 72 23).toInt ∧ (r37.2.1 72 23).toInt ≤ 76 := ki623.1 72 23
                        have kc666 : (r37.2.1 72 23).toInt = (r29.2.1 72 23).toInt := congrArg Int32.toInt (kf624 72 23 rfl)
                        have kc667 : (-1 : Int) ≤ (r41.2.1 76 ((m.1 72 25)).toNatClampNeg).toInt ∧ (r41.2.1 76 ((m.1 72 25)).toNatClampNeg).toInt ≤ 9 := ki658.1 76 ((m.1 72 25)).toNatClampNeg
                        have kc668 : 0 ≤ (r41.2.1 72 6).toInt ∧ (r41.2.1 72 6).toInt ≤ 14 := ki658.1 72 6
                        have kc669 : 0 ≤ (r41.2.1 72 25).toInt ∧ (r41.2.1 72 25).toInt ≤ 14 := ki658.1 72 25
                        have kc670 := zI.le ki658
                        have kc671 : (r41.2.1 72 25).toInt = ((sm_w1 r37.2 82 ((m.1 72 25)).toNatClampNeg r37.1).1 72 25).toInt := congrArg Int32.toInt (kf659 72 25 rfl)
                        have kc672 : (r41.2.1 72 6).toInt = ((sm_w1 r37.2 82 ((m.1 72 25)).toNatClampNeg r37.1).1 72 6).toInt := congrArg Int32.toInt (kf659 72 6 rfl)
                        have kc673 := zI.pf76 ki658 (m.1 72 25)
                        have kc674 : (r41.2.1 76 ((m.1 72 25)).toNatClampNeg).toInt = ((sm_w1 r37.2 82 ((m.1 72 25)).toNatClampNeg r37.1).1 76 ((m.1 72 25)).toNatClampNeg).toInt := congrArg Int32.toInt (kf659 76 ((m.1 72 25)).toNatClampNeg rfl)
                        have kc675 : (-1 : Int) ≤ ((sm_w1 r37.2 82 ((m.1 72 25)).toNatClampNeg r37.1).1 76 ((m.1 72 25)).toNatClampNeg).toInt ∧ ((sm_w1 r37.2 82 ((m.1 72 25)).toNatClampNeg r37.1).1 76 ((m.1 72 25)).toNatClampNeg).toInt ≤ 9 := ki645.1 76 ((m.1 72 25)).toNatClampNeg
                        have kc676 := zI.pf76 ki645 (m.1 72 25)
                        have kc677 : ((sm_w1 r37.2 82 ((m.1 72 25)).toNatClampNeg r37.1).1 76 ((m.1 72 25)).toNatClampNeg).toInt = (r37.2.1 76 ((m.1 72 25)).toNatClampNeg).toInt := congrArg Int32.toInt (r_cell (by decide))
                        have kc678 : (-1 : Int) ≤ (r41.2.1 77 ((m.1 72 25)).toNatClampNeg).toInt ∧ (r41.2.1 77 ((m.1 72 25)).toNatClampNeg).toInt ≤ 9 := ki658.1 77 ((m.1 72 25)).toNatClampNeg
                        have kc679 := zI.pf77 ki658 (m.1 72 25)
                        have kc680 : (r41.2.1 77 ((m.1 72 25)).toNatClampNeg).toInt = ((sm_w1 r37.2 82 ((m.1 72 25)).toNatClampNeg r37.1).1 77 ((m.1 72 25)).toNatClampNeg).toInt := congrArg Int32.toInt (kf659 77 ((m.1 72 25)).toNatClampNeg rfl)
                        have kc681 : (-1 : Int) ≤ ((sm_w1 r37.2 82 ((m.1 72 25)).toNatClampNeg r37.1).1 77 ((m.1 72 25)).toNatClampNeg).toInt ∧ ((sm_w1 r37.2 82 ((m.1 72 25)).toNatClampNeg r37.1).1 77 ((m.1 72 25)).toNatClampNeg).toInt ≤ 9 := ki645.1 77 ((m.1 72 25)).toNatClampNeg
                        have kc682 := zI.pf77 ki645 (m.1 72 25)
                        have kc683 : ((sm_w1 r37.2 82 ((m.1 72 25)).toNatClampNeg r37.1).1 77 ((m.1 72 25)).toNatClampNeg).toInt = (r37.2.1 77 ((m.1 72 25)).toNatClampNeg).toInt := congrArg Int32.toInt (r_cell (by decide))
                        have kc684 : (-1 : Int) ≤ (r41.2.1 78 ((m.1 72 25)).toNatClampNeg).toInt ∧ (r41.2.1 78 ((m.1 72 25)).toNatClampNeg).toInt ≤ 20 := ki658.1 78 ((m.1 72 25)).toNatClampNeg
                        have kc685 := zI.pf78 ki658 (m.1 72 25)
                        have kc686 : (r41.2.1 78 ((m.1 72 25)).toNatClampNeg).toInt = ((sm_w1 r37.2 82 ((m.1 72 25)).toNatClampNeg r37.1).1 78 ((m.1 72 25)).toNatClampNeg).toInt := congrArg Int32.toInt (kf659 78 ((m.1 72 25)).toNatClampNeg rfl)
                        have kc687 : (-1 : Int) ≤ ((sm_w1 r37.2 82 ((m.1 72 25)).toNatClampNeg r37.1).1 78 ((m.1 72 25)).toNatClampNeg).toInt ∧ ((sm_w1 r37.2 82 ((m.1 72 25)).toNatClampNeg r37.1).1 78 ((m.1 72 25)).toNatClampNeg).toInt ≤ 20 := ki645.1 78 ((m.1 72 25)).toNatClampNeg
                        have kc688 := zI.pf78 ki645 (m.1 72 25)
                        have kc689 : ((sm_w1 r37.2 82 ((m.1 72 25)).toNatClampNeg r37.1).1 78 ((m.1 72 25)).toNatClampNeg).toInt = (r37.2.1 78 ((m.1 72 25)).toNatClampNeg).toInt := congrArg Int32.toInt (r_cell (by decide))
                        have kc690 : (-1 : Int) ≤ (r41.2.1 82 ((m.1 72 25)).toNatClampNeg).toInt ∧ (r41.2.1 82 ((m.1 72 25)).toNatClampNeg).toInt ≤ 9 := ki658.1 82 ((m.1 72 25)).toNatClampNeg
                        have kc691 := zI.pf82 ki658 (m.1 72 25)
                        have kc692 : (r41.2.1 82 ((m.1 72 25)).toNatClampNeg).toInt = ((sm_w1 r37.2 82 ((m.1 72 25)).toNatClampNeg r37.1).1 82 ((m.1 72 25)).toNatClampNeg).toInt := congrArg Int32.toInt (kf659 82 ((m.1 72 25)).toNatClampNeg rfl)
                        refine s_eq (fun kh693 => ?_) (fun kh693 => ?_)
                        · refine s_ix kx41 ?_
                          have kc694 : 0 ≤ (r37.2.1 72 26).toInt ∧ (r37.2.1 72 26).toInt ≤ 16383 := ki623.1 72 26
                          have kc695 : (r37.2.1 72 26).toInt = (r29.2.1 72 26).toInt := congrArg Int32.toInt (kf624 72 26 rfl)
                          have kc696 : 0 ≤ (r29.2.1 72 26).toInt ∧ (r29.2.1 72 26).toInt ≤ 16383 := ki335.1 72 26
                          have kc697 : (r29.2.1 72 26).toInt = ((sm_w1 r25.2 81 ((m.1 72 25)).toNatClampNeg (1 : Int32)).1 72 26).toInt := congrArg Int32.toInt (kf336 72 26 rfl)
                          have kc698 : 0 ≤ ((sm_w1 r25.2 81 ((m.1 72 25)).toNatClampNeg (1 : Int32)).1 72 26).toInt ∧ ((sm_w1 r25.2 81 ((m.1 72 25)).toNatClampNeg (1 : Int32)).1 72 26).toInt ≤ 16383 := ki328.1 72 26
                          have kc699 : ((sm_w1 r25.2 81 ((m.1 72 25)).toNatClampNeg (1 : Int32)).1 72 26).toInt = (r25.2.1 72 26).toInt := congrArg Int32.toInt (r_cell (by decide))
                          have kc700 : 0 ≤ (r25.2.1 72 26).toInt ∧ (r25.2.1 72 26).toInt ≤ 16383 := ki284.1 72 26
                          have kc701 : (r25.2.1 72 26).toInt = ((sm_w1 r21.2 80 ((m.1 72 25)).toNatClampNeg r21.1).1 72 26).toInt := congrArg Int32.toInt (kf285 72 26 rfl)
                          have kc702 : 0 ≤ ((sm_w1 r21.2 80 ((m.1 72 25)).toNatClampNeg r21.1).1 72 26).toInt ∧ ((sm_w1 r21.2 80 ((m.1 72 25)).toNatClampNeg r21.1).1 72 26).toInt ≤ 16383 := ki277.1 72 26
                          have kc703 : ((sm_w1 r21.2 80 ((m.1 72 25)).toNatClampNeg r21.1).1 72 26).toInt = (r21.2.1 72 26).toInt := congrArg Int32.toInt (r_cell (by decide))
                          have kc704 : 0 ≤ (r21.2.1 72 26).toInt ∧ (r21.2.1 72 26).toInt ≤ 16383 := ki234.1 72 26
                          have kc705 : (r21.2.1 72 26).toInt = ((sm_w1 r17.2 79 ((m.1 72 25)).toNatClampNeg r17.1).1 72 26).toInt := congrArg Int32.toInt (kf235 72 26 rfl)
                          have kc706 : 0 ≤ ((sm_w1 r17.2 79 ((m.1 72 25)).toNatClampNeg r17.1).1 72 26).toInt ∧ ((sm_w1 r17.2 79 ((m.1 72 25)).toNatClampNeg r17.1).1 72 26).toInt ≤ 16383 := ki228.1 72 26
                          have kc707 : ((sm_w1 r17.2 79 ((m.1 72 25)).toNatClampNeg r17.1).1 72 26).toInt = (r17.2.1 72 26).toInt := congrArg Int32.toInt (r_cell (by decide))
                          have kc708 : 0 ≤ (r17.2.1 72 26).toInt ∧ (r17.2.1 72 26).toInt ≤ 16383 := ki206.1 72 26
                          have kc709 : (r17.2.1 72 26).toInt = (r15.2.1 72 26).toInt := congrArg Int32.toInt (kf207 72 26 rfl)
                          have kc710 : 0 ≤ (r15.2.1 72 26).toInt ∧ (r15.2.1 72 26).toInt ≤ 16383 := ki156.1 72 26
                          have kc711 : (r15.2.1 72 26).toInt = ((sm_w1 r11.2 78 ((m.1 72 25)).toNatClampNeg r11.1).1 72 26).toInt := congrArg Int32.toInt (kf157 72 26 rfl)
                          have kc712 : 0 ≤ ((sm_w1 r11.2 78 ((m.1 72 25)).toNatClampNeg r11.1).1 72 26).toInt ∧ ((sm_w1 r11.2 78 ((m.1 72 25)).toNatClampNeg r11.1).1 72 26).toInt ≤ 16383 := ki135.1 72 26
                          have kc713 : ((sm_w1 r11.2 78 ((m.1 72 25)).toNatClampNeg r11.1).1 72 26).toInt = (r11.2.1 72 26).toInt := congrArg Int32.toInt (r_cell (by decide))
                          have kc714 : 0 ≤ (r11.2.1 72 26).toInt ∧ (r11.2.1 72 26).toInt ≤ 16383 := ki104.1 72 26
                          have kc715 : (r11.2.1 72 26).toInt = ((sm_w1 r7.2 77 ((m.1 72 25)).toNatClampNeg r7.1).1 72 26).toInt := congrArg Int32.toInt (kf105 72 26 rfl)
                          have kc716 : 0 ≤ ((sm_w1 r7.2 77 ((m.1 72 25)).toNatClampNeg r7.1).1 72 26).toInt ∧ ((sm_w1 r7.2 77 ((m.1 72 25)).toNatClampNeg r7.1).1 72 26).toInt ≤ 16383 := ki90.1 72 26
                          have kc717 : ((sm_w1 r7.2 77 ((m.1 72 25)).toNatClampNeg r7.1).1 72 26).toInt = (r7.2.1 72 26).toInt := congrArg Int32.toInt (r_cell (by decide))
                          have kc718 : 0 ≤ (r7.2.1 72 26).toInt ∧ (r7.2.1 72 26).toInt ≤ 16383 := ki55.1 72 26
                          have kc719 : (r7.2.1 72 26).toInt = ((sm_w1 r2.2 76 ((m.1 72 25)).toNatClampNeg r2.1).1 72 26).toInt := congrArg Int32.toInt (kf56 72 26 rfl)
                          have kc720 : 0 ≤ ((sm_w1 r2.2 76 ((m.1 72 25)).toNatClampNeg r2.1).1 72 26).toInt ∧ ((sm_w1 r2.2 76 ((m.1 72 25)).toNatClampNeg r2.1).1 72 26).toInt ≤ 16383 := ki43.1 72 26
                          have kc721 : ((sm_w1 r2.2 76 ((m.1 72 25)).toNatClampNeg r2.1).1 72 26).toInt = (r2.2.1 72 26).toInt := congrArg Int32.toInt (r_cell (by decide))
                          have kc722 : 0 ≤ (r2.2.1 72 26).toInt ∧ (r2.2.1 72 26).toInt ≤ 16383 := ki11.1 72 26
                          have kc723 : (r2.2.1 72 26).toInt = (m.1 72 26).toInt := congrArg Int32.toInt (kf12 72 26 rfl)
                          have kc724 : 0 ≤ (m.1 72 26).toInt ∧ (m.1 72 26).toInt ≤ 16383 := hI.1 72 26
                          have kc725 : 0 ≤ ((r37.2.1 72 26) ||| (0 : Int32)).toInt ∧ ((r37.2.1 72 26) ||| (0 : Int32)).toInt < 16384 := a_or 14 (by decide) (by decide) (by omega) (by omega) (by omega) (by omega)
                          have ki726 : zI (sm_w1 r41.2 72 26 ((r37.2.1 72 26) ||| (0 : Int32))) := zI.w ki658 rfl (show 0 ≤ (((r37.2.1 72 26) ||| (0 : Int32))).toInt ∧ (((r37.2.1 72 26) ||| (0 : Int32))).toInt ≤ 16383 by omega)
                          have ki727 : zI (sm_w1 (sm_w1 r41.2 72 26 ((r37.2.1 72 26) ||| (0 : Int32))) 83 ((m.1 72 25)).toNatClampNeg (-1 : Int32)) := zI.w ki726 rfl (rg _)
                          have kc728 : ((r41.2.1 72 25) + (1 : Int32)).toInt = ((r41.2.1 72 25)).toInt + 1 := a_addl L1 (by omega) (by omega)
                          have kc730 : 0 ≤ ((sm_w1 (sm_w1 r41.2 72 26 ((r37.2.1 72 26) ||| (0 : Int32))) 83 ((m.1 72 25)).toNatClampNeg (-1 : Int32)).1 72 6).toInt ∧ ((sm_w1 (sm_w1 r41.2 72 26 ((r37.2.1 72 26) ||| (0 : Int32))) 83 ((m.1 72 25)).toNatClampNeg (-1 : Int32)).1 72 6).toInt ≤ 14 := ki727.1 72 6
                          have kc731 : 0 ≤ ((sm_w1 (sm_w1 r41.2 72 26 ((r37.2.1 72 26) ||| (0 : Int32))) 83 ((m.1 72 25)).toNatClampNeg (-1 : Int32)).1 72 25).toInt ∧ ((sm_w1 (sm_w1 r41.2 72 26 ((r37.2.1 72 26) ||| (0 : Int32))) 83 ((m.1 72 25)).toNatClampNeg (-1 : Int32)).1 72 25).toInt ≤ 14 := ki727.1 72 25
                          have kc732 := zI.le ki727
                          have kc733 : ((sm_w1 (sm_w1 r41.2 72 26 ((r37.2.1 72 26) ||| (0 : Int32))) 83 ((m.1 72 25)).toNatClampNeg (-1 : Int32)).1 72 25).toInt = ((sm_w1 r41.2 72 26 ((r37.2.1 72 26) ||| (0 : Int32))).1 72 25).toInt := congrArg Int32.toInt (r_cell (by decide))
                          have kc734 : 0 ≤ ((sm_w1 r41.2 72 26 ((r37.2.1 72 26) ||| (0 : Int32))).1 72 25).toInt ∧ ((sm_w1 r41.2 72 26 ((r37.2.1 72 26) ||| (0 : Int32))).1 72 25).toInt ≤ 14 := ki726.1 72 25
                          have kc735 : 0 ≤ ((sm_w1 r41.2 72 26 ((r37.2.1 72 26) ||| (0 : Int32))).1 72 6).toInt ∧ ((sm_w1 r41.2 72 26 ((r37.2.1 72 26) ||| (0 : Int32))).1 72 6).toInt ≤ 14 := ki726.1 72 6
                          have kc736 := zI.le ki726
                          have kc737 : ((sm_w1 r41.2 72 26 ((r37.2.1 72 26) ||| (0 : Int32))).1 72 6).toInt = (r41.2.1 72 6).toInt := rfl
                          have kc738 : ((sm_w1 r41.2 72 26 ((r37.2.1 72 26) ||| (0 : Int32))).1 72 25).toInt = (r41.2.1 72 25).toInt := rfl
                          have kc739 : ((sm_w1 (sm_w1 r41.2 72 26 ((r37.2.1 72 26) ||| (0 : Int32))) 83 ((m.1 72 25)).toNatClampNeg (-1 : Int32)).1 72 6).toInt = ((sm_w1 r41.2 72 26 ((r37.2.1 72 26) ||| (0 : Int32))).1 72 6).toInt := congrArg Int32.toInt (r_cell (by decide))
                          have kc740 := a_tn (show 0 ≤ (m.1 72 25).toInt by omega)
                          have kc741 : (-1 : Int) ≤ ((sm_w1 (sm_w1 r41.2 72 26 ((r37.2.1 72 26) ||| (0 : Int32))) 83 ((m.1 72 25)).toNatClampNeg (-1 : Int32)).1 76 ((m.1 72 25)).toNatClampNeg).toInt ∧ ((sm_w1 (sm_w1 r41.2 72 26 ((r37.2.1 72 26) ||| (0 : Int32))) 83 ((m.1 72 25)).toNatClampNeg (-1 : Int32)).1 76 ((m.1 72 25)).toNatClampNeg).toInt ≤ 9 := ki727.1 76 ((m.1 72 25)).toNatClampNeg
                          have kc742 := zI.pf76 ki727 (m.1 72 25)
                          have kc743 : ((sm_w1 (sm_w1 r41.2 72 26 ((r37.2.1 72 26) ||| (0 : Int32))) 83 ((m.1 72 25)).toNatClampNeg (-1 : Int32)).1 76 ((m.1 72 25)).toNatClampNeg).toInt = ((sm_w1 r41.2 72 26 ((r37.2.1 72 26) ||| (0 : Int32))).1 76 ((m.1 72 25)).toNatClampNeg).toInt := congrArg Int32.toInt (r_cell (by decide))
                          have kc744 : (-1 : Int) ≤ ((sm_w1 r41.2 72 26 ((r37.2.1 72 26) ||| (0 : Int32))).1 76 ((m.1 72 25)).toNatClampNeg).toInt ∧ ((sm_w1 r41.2 72 26 ((r37.2.1 72 26) ||| (0 : Int32))).1 76 ((m.1 72 25)).toNatClampNeg).toInt ≤ 9 := ki726.1 76 ((m.1 72 25)).toNatClampNeg
                          have kc745 := zI.pf76 ki726 (m.1 72 25)
                          have kc746 : ((sm_w1 r41.2 72 26 ((r37.2.1 72 26) ||| (0 : Int32))).1 76 ((m.1 72 25)).toNatClampNeg).toInt = (r41.2.1 76 ((m.1 72 25)).toNatClampNeg).toInt := congrArg Int32.toInt (r_cell (by decide))
                          have kc747 : (-1 : Int) ≤ ((sm_w1 (sm_w1 r41.2 72 26 ((r37.2.1 72 26) ||| (0 : Int32))) 83 ((m.1 72 25)).toNatClampNeg (-1 : Int32)).1 77 ((m.1 72 25)).toNatClampNeg).toInt ∧ ((sm_w1 (sm_w1 r41.2 72 26 ((r37.2.1 72 26) ||| (0 : Int32))) 83 ((m.1 72 25)).toNatClampNeg (-1 : Int32)).1 77 ((m.1 72 25)).toNatClampNeg).toInt ≤ 9 := ki727.1 77 ((m.1 72 25)).toNatClampNeg
                          have kc748 := zI.pf77 ki727 (m.1 72 25)
                          have kc749 : ((sm_w1 (sm_w1 r41.2 72 26 ((r37.2.1 72 26) ||| (0 : Int32))) 83 ((m.1 72 25)).toNatClampNeg (-1 : Int32)).1 77 ((m.1 72 25)).toNatClampNeg).toInt = ((sm_w1 r41.2 72 26 ((r37.2.1 72 26) ||| (0 : Int32))).1 77 ((m.1 72 25)).toNatClampNeg).toInt := congrArg Int32.toInt (r_cell (by decide))
                          have kc750 : (-1 : Int) ≤ ((sm_w1 r41.2 72 26 ((r37.2.1 72 26) ||| (0 : Int32))).1 77 ((m.1 72 25)).toNatClampNeg).toInt ∧ ((sm_w1 r41.2 72 26 ((r37.2.1 72 26) ||| (0 : Int32))).1 77 ((m.1 72 25)).toNatClampNeg).toInt ≤ 9 := ki726.1 77 ((m.1 72 25)).toNatClampNeg
                          have kc751 := zI.pf77 ki726 (m.1 72 25)
                          have kc752 : ((sm_w1 r41.2 72 26 ((r37.2.1 72 26) ||| (0 : Int32))).1 77 ((m.1 72 25)).toNatClampNeg).toInt = (r41.2.1 77 ((m.1 72 25)).toNatClampNeg).toInt := congrArg Int32.toInt (r_cell (by decide))
                          have kc753 : (-1 : Int) ≤ ((sm_w1 (sm_w1 r41.2 72 26 ((r37.2.1 72 26) ||| (0 : Int32))) 83 ((m.1 72 25)).toNatClampNeg (-1 : Int32)).1 78 ((m.1 72 25)).toNatClampNeg).toInt ∧ ((sm_w1 (sm_w1 r41.2 72 26 ((r37.2.1 72 26) ||| (0 : Int32))) 83 ((m.1 72 25)).toNatClampNeg (-1 : Int32)).1 78 ((m.1 72 25)).toNatClampNeg).toInt ≤ 20 := ki727.1 78 ((m.1 72 25)).toNatClampNeg
                          have kc754 := zI.pf78 ki727 (m.1 72 25)
                          have kc755 : ((sm_w1 (sm_w1 r41.2 72 26 ((r37.2.1 72 26) ||| (0 : Int32))) 83 ((m.1 72 25)).toNatClampNeg (-1 : Int32)).1 78 ((m.1 72 25)).toNatClampNeg).toInt = ((sm_w1 r41.2 72 26 ((r37.2.1 72 26) ||| (0 : Int32))).1 78 ((m.1 72 25)).toNatClampNeg).toInt := congrArg Int32.toInt (r_cell (by decide))
                          have kc756 : (-1 : Int) ≤ ((sm_w1 r41.2 72 26 ((r37.2.1 72 26) ||| (0 : Int32))).1 78 ((m.1 72 25)).toNatClampNeg).toInt ∧ ((sm_w1 r41.2 72 26 ((r37.2.1 72 26) ||| (0 : Int32))).1 78 ((m.1 72 25)).toNatClampNeg).toInt ≤ 20 := ki726.1 78 ((m.1 72 25)).toNatClampNeg
                          have kc757 := zI.pf78 ki726 (m.1 72 25)
                          have kc758 : ((sm_w1 r41.2 72 26 ((r37.2.1 72 26) ||| (0 : Int32))).1 78 ((m.1 72 25)).toNatClampNeg).toInt = (r41.2.1 78 ((m.1 72 25)).toNatClampNeg).toInt := congrArg Int32.toInt (r_cell (by decide))
                          have kc759 : (-1 : Int) ≤ ((sm_w1 (sm_w1 r41.2 72 26 ((r37.2.1 72 26) ||| (0 : Int32))) 83 ((m.1 72 25)).toNatClampNeg (-1 : Int32)).1 82 ((m.1 72 25)).toNatClampNeg).toInt ∧ ((sm_w1 (sm_w1 r41.2 72 26 ((r37.2.1 72 26) ||| (0 : Int32))) 83 ((m.1 72 25)).toNatClampNeg (-1 : Int32)).1 82 ((m.1 72 25)).toNatClampNeg).toInt ≤ 9 := ki727.1 82 ((m.1 72 25)).toNatClampNeg
                          have kc760 := zI.pf82 ki727 (m.1 72 25)
                          have kc761 : ((sm_w1 (sm_w1 r41.2 72 26 ((r37.2.1 72 26) ||| (0 : Int32))) 83 ((m.1 72 25)).toNatClampNeg (-1 : Int32)).1 82 ((m.1 72 25)).toNatClampNeg).toInt = ((sm_w1 r41.2 72 26 ((r37.2.1 72 26) ||| (0 : Int32))).1 82 ((m.1 72 25)).toNatClampNeg).toInt := congrArg Int32.toInt (r_cell (by decide))
                          have kc762 : (-1 : Int) ≤ ((sm_w1 r41.2 72 26 ((r37.2.1 72 26) ||| (0 : Int32))).1 82 ((m.1 72 25)).toNatClampNeg).toInt ∧ ((sm_w1 r41.2 72 26 ((r37.2.1 72 26) ||| (0 : Int32))).1 82 ((m.1 72 25)).toNatClampNeg).toInt ≤ 9 := ki726.1 82 ((m.1 72 25)).toNatClampNeg
                          have kc763 := zI.pf82 ki726 (m.1 72 25)
                          have kc764 : ((sm_w1 r41.2 72 26 ((r37.2.1 72 26) ||| (0 : Int32))).1 82 ((m.1 72 25)).toNatClampNeg).toInt = (r41.2.1 82 ((m.1 72 25)).toNatClampNeg).toInt := congrArg Int32.toInt (r_cell (by decide))
                          have ki729 : zI (sm_w1 (sm_w1 (sm_w1 r41.2 72 26 ((r37.2.1 72 26) ||| (0 : Int32))) 83 ((m.1 72 25)).toNatClampNeg (-1 : Int32)) 72 25 ((r41.2.1 72 25) + (1 : Int32))) := zI.w25b ((m.1 72 25)).toNatClampNeg ki727 (show 0 ≤ (((r41.2.1 72 25) + (1 : Int32))).toInt ∧ (((r41.2.1 72 25) + (1 : Int32))).toInt ≤ 14 by omega) (show (((r41.2.1 72 25) + (1 : Int32))).toInt = ((sm_w1 (sm_w1 r41.2 72 26 ((r37.2.1 72 26) ||| (0 : Int32))) 83 ((m.1 72 25)).toNatClampNeg (-1 : Int32)).1 72 25).toInt + 1 by omega) (show ((((m.1 72 25)).toNatClampNeg : Nat) : Int) = ((sm_w1 (sm_w1 r41.2 72 26 ((r37.2.1 72 26) ||| (0 : Int32))) 83 ((m.1 72 25)).toNatClampNeg (-1 : Int32)).1 72 25).toInt by omega) (show 0 ≤ ((sm_w1 (sm_w1 r41.2 72 26 ((r37.2.1 72 26) ||| (0 : Int32))) 83 ((m.1 72 25)).toNatClampNeg (-1 : Int32)).1 76 ((m.1 72 25)).toNatClampNeg).toInt by omega) (show 0 ≤ ((sm_w1 (sm_w1 r41.2 72 26 ((r37.2.1 72 26) ||| (0 : Int32))) 83 ((m.1 72 25)).toNatClampNeg (-1 : Int32)).1 77 ((m.1 72 25)).toNatClampNeg).toInt by omega) (show 1 ≤ ((sm_w1 (sm_w1 r41.2 72 26 ((r37.2.1 72 26) ||| (0 : Int32))) 83 ((m.1 72 25)).toNatClampNeg (-1 : Int32)).1 78 ((m.1 72 25)).toNatClampNeg).toInt by omega) (show 0 ≤ ((sm_w1 (sm_w1 r41.2 72 26 ((r37.2.1 72 26) ||| (0 : Int32))) 83 ((m.1 72 25)).toNatClampNeg (-1 : Int32)).1 82 ((m.1 72 25)).toNatClampNeg).toInt by omega)
                          have kc765 : 0 ≤ ((sm_w1 (sm_w1 (sm_w1 r41.2 72 26 ((r37.2.1 72 26) ||| (0 : Int32))) 83 ((m.1 72 25)).toNatClampNeg (-1 : Int32)) 72 25 ((r41.2.1 72 25) + (1 : Int32))).1 72 22).toInt ∧ ((sm_w1 (sm_w1 (sm_w1 r41.2 72 26 ((r37.2.1 72 26) ||| (0 : Int32))) 83 ((m.1 72 25)).toNatClampNeg (-1 : Int32)) 72 25 ((r41.2.1 72 25) + (1 : Int32))).1 72 22).toInt ≤ 80 := ki729.1 72 22
                          have kc766 : ((sm_w1 (sm_w1 (sm_w1 r41.2 72 26 ((r37.2.1 72 26) ||| (0 : Int32))) 83 ((m.1 72 25)).toNatClampNeg (-1 : Int32)) 72 25 ((r41.2.1 72 25) + (1 : Int32))).1 72 22).toInt = ((sm_w1 (sm_w1 r41.2 72 26 ((r37.2.1 72 26) ||| (0 : Int32))) 83 ((m.1 72 25)).toNatClampNeg (-1 : Int32)).1 72 22).toInt := rfl
                          have kc767 : 0 ≤ ((sm_w1 (sm_w1 r41.2 72 26 ((r37.2.1 72 26) ||| (0 : Int32))) 83 ((m.1 72 25)).toNatClampNeg (-1 : Int32)).1 72 22).toInt ∧ ((sm_w1 (sm_w1 r41.2 72 26 ((r37.2.1 72 26) ||| (0 : Int32))) 83 ((m.1 72 25)).toNatClampNeg (-1 : Int32)).1 72 22).toInt ≤ 80 := ki727.1 72 22
                          have kc768 : ((sm_w1 (sm_w1 r41.2 72 26 ((r37.2.1 72 26) ||| (0 : Int32))) 83 ((m.1 72 25)).toNatClampNeg (-1 : Int32)).1 72 22).toInt = ((sm_w1 r41.2 72 26 ((r37.2.1 72 26) ||| (0 : Int32))).1 72 22).toInt := congrArg Int32.toInt (r_cell (by decide))
                          have kc769 : 0 ≤ ((sm_w1 r41.2 72 26 ((r37.2.1 72 26) ||| (0 : Int32))).1 72 22).toInt ∧ ((sm_w1 r41.2 72 26 ((r37.2.1 72 26) ||| (0 : Int32))).1 72 22).toInt ≤ 80 := ki726.1 72 22
                          have kc770 : ((sm_w1 r41.2 72 26 ((r37.2.1 72 26) ||| (0 : Int32))).1 72 22).toInt = (r41.2.1 72 22).toInt := rfl
                          have kf771 : Fr wX12_readsHedge m r2.2 := Fr.trans Fr.refl kf12 rfl
                          have kf772 : Fr wX12_readsHedge m (sm_w1 r2.2 76 ((m.1 72 25)).toNatClampNeg r2.1) := Fr.w kf771 rfl
                          have kf773 : Fr wX12_readsHedge m r7.2 := Fr.trans kf772 kf56 rfl
                          have kf774 : Fr wX12_readsHedge m (sm_w1 r7.2 77 ((m.1 72 25)).toNatClampNeg r7.1) := Fr.w kf773 rfl
                          have kf775 : Fr wX12_readsHedge m r11.2 := Fr.trans kf774 kf105 rfl
                          have kf776 : Fr wX12_readsHedge m (sm_w1 r11.2 78 ((m.1 72 25)).toNatClampNeg r11.1) := Fr.w kf775 rfl
                          have kf777 : Fr wX12_readsHedge m r15.2 := Fr.trans kf776 kf157 rfl
                          have kf778 : Fr wX12_readsHedge m r17.2 := Fr.trans kf777 kf207 rfl
                          have kf779 : Fr wX12_readsHedge m (sm_w1 r17.2 79 ((m.1 72 25)).toNatClampNeg r17.1) := Fr.w kf778 rfl
                          have kf780 : Fr wX12_readsHedge m r21.2 := Fr.trans kf779 kf235 rfl
                          have kf781 : Fr wX12_readsHedge m (sm_w1 r21.2 80 ((m.1 72 25)).toNatClampNeg r21.1) := Fr.w kf780 rfl
                          have kf782 : Fr wX12_readsHedge m r25.2 := Fr.trans kf781 kf285 rfl
                          have kf783 : Fr wX12_readsHedge m (sm_w1 r25.2 81 ((m.1 72 25)).toNatClampNeg (1 : Int32)) := Fr.w kf782 rfl
                          have kf784 : Fr wX12_readsHedge m r29.2 := Fr.trans kf783 kf336 rfl
                          have kf785 : Fr wX12_readsHedge m r37.2 := Fr.trans kf784 kf624 rfl
                          have kf786 : Fr wX12_readsHedge m (sm_w1 r37.2 82 ((m.1 72 25)).toNatClampNeg r37.1) := Fr.w kf785 rfl
                          have kf787 : Fr wX12_readsHedge m r41.2 := Fr.trans kf786 kf659 rfl
                          have kf788 : Fr wX12_readsHedge m (sm_w1 r41.2 72 26 ((r37.2.1 72 26) ||| (0 : Int32))) := Fr.w kf787 rfl
                          have kf789 : Fr wX12_readsHedge m (sm_w1 (sm_w1 r41.2 72 26 ((r37.2.1 72 26) ||| (0 : Int32))) 83 ((m.1 72 25)).toNatClampNeg (-1 : Int32)) := Fr.w kf788 rfl
                          have kf790 : Fr wX12_readsHedge m (sm_w1 (sm_w1 (sm_w1 r41.2 72 26 ((r37.2.1 72 26) ||| (0 : Int32))) 83 ((m.1 72 25)).toNatClampNeg (-1 : Int32)) 72 25 ((r41.2.1 72 25) + (1 : Int32))) := Fr.w kf789 rfl
                          exact s_ret ⟨(show (0 ≤ (1 : Int32).toInt) ∧ ((1 : Int32).toInt ≤ 1) ∧ ((m.1 72 22).toInt ≤ ((sm_w1 (sm_w1 (sm_w1 r41.2 72 26 ((r37.2.1 72 26) ||| (0 : Int32))) 83 ((m.1 72 25)).toNatClampNeg (-1 : Int32)) 72 25 ((r41.2.1 72 25) + (1 : Int32))).1 72 22).toInt) by omega), ki729, kf790⟩
                        · refine s_ix kx41 ?_
                          have kc791 : 0 ≤ (r37.2.1 72 26).toInt ∧ (r37.2.1 72 26).toInt ≤ 16383 := ki623.1 72 26
                          have kc792 : (r37.2.1 72 26).toInt = (r29.2.1 72 26).toInt := congrArg Int32.toInt (kf624 72 26 rfl)
                          have kc793 : 0 ≤ (r29.2.1 72 26).toInt ∧ (r29.2.1 72 26).toInt ≤ 16383 := ki335.1 72 26
                          have kc794 : (r29.2.1 72 26).toInt = ((sm_w1 r25.2 81 ((m.1 72 25)).toNatClampNeg (1 : Int32)).1 72 26).toInt := congrArg Int32.toInt (kf336 72 26 rfl)
                          have kc795 : 0 ≤ ((sm_w1 r25.2 81 ((m.1 72 25)).toNatClampNeg (1 : Int32)).1 72 26).toInt ∧ ((sm_w1 r25.2 81 ((m.1 72 25)).toNatClampNeg (1 : Int32)).1 72 26).toInt ≤ 16383 := ki328.1 72 26
                          have kc796 : ((sm_w1 r25.2 81 ((m.1 72 25)).toNatClampNeg (1 : Int32)).1 72 26).toInt = (r25.2.1 72 26).toInt := congrArg Int32.toInt (r_cell (by decide))
                          have kc797 : 0 ≤ (r25.2.1 72 26).toInt ∧ (r25.2.1 72 26).toInt ≤ 16383 := ki284.1 72 26
                          have kc798 : (r25.2.1 72 26).toInt = ((sm_w1 r21.2 80 ((m.1 72 25)).toNatClampNeg r21.1).1 72 26).toInt := congrArg Int32.toInt (kf285 72 26 rfl)
                          have kc799 : 0 ≤ ((sm_w1 r21.2 80 ((m.1 72 25)).toNatClampNeg r21.1).1 72 26).toInt ∧ ((sm_w1 r21.2 80 ((m.1 72 25)).toNatClampNeg r21.1).1 72 26).toInt ≤ 16383 := ki277.1 72 26
                          have kc800 : ((sm_w1 r21.2 80 ((m.1 72 25)).toNatClampNeg r21.1).1 72 26).toInt = (r21.2.1 72 26).toInt := congrArg Int32.toInt (r_cell (by decide))
                          have kc801 : 0 ≤ (r21.2.1 72 26).toInt ∧ (r21.2.1 72 26).toInt ≤ 16383 := ki234.1 72 26
                          have kc802 : (r21.2.1 72 26).toInt = ((sm_w1 r17.2 79 ((m.1 72 25)).toNatClampNeg r17.1).1 72 26).toInt := congrArg Int32.toInt (kf235 72 26 rfl)
                          have kc803 : 0 ≤ ((sm_w1 r17.2 79 ((m.1 72 25)).toNatClampNeg r17.1).1 72 26).toInt ∧ ((sm_w1 r17.2 79 ((m.1 72 25)).toNatClampNeg r17.1).1 72 26).toInt ≤ 16383 := ki228.1 72 26
                          have kc804 : ((sm_w1 r17.2 79 ((m.1 72 25)).toNatClampNeg r17.1).1 72 26).toInt = (r17.2.1 72 26).toInt := congrArg Int32.toInt (r_cell (by decide))
                          have kc805 : 0 ≤ (r17.2.1 72 26).toInt ∧ (r17.2.1 72 26).toInt ≤ 16383 := ki206.1 72 26
                          have kc806 : (r17.2.1 72 26).toInt = (r15.2.1 72 26).toInt := congrArg Int32.toInt (kf207 72 26 rfl)
                          have kc807 : 0 ≤ (r15.2.1 72 26).toInt ∧ (r15.2.1 72 26).toInt ≤ 16383 := ki156.1 72 26
                          have kc808 : (r15.2.1 72 26).toInt = ((sm_w1 r11.2 78 ((m.1 72 25)).toNatClampNeg r11.1).1 72 26).toInt := congrArg Int32.toInt (kf157 72 26 rfl)
                          have kc809 : 0 ≤ ((sm_w1 r11.2 78 ((m.1 72 25)).toNatClampNeg r11.1).1 72 26).toInt ∧ ((sm_w1 r11.2 78 ((m.1 72 25)).toNatClampNeg r11.1).1 72 26).toInt ≤ 16383 := ki135.1 72 26
                          have kc810 : ((sm_w1 r11.2 78 ((m.1 72 25)).toNatClampNeg r11.1).1 72 26).toInt = (r11.2.1 72 26).toInt := congrArg Int32.toInt (r_cell (by decide))
                          have kc811 : 0 ≤ (r11.2.1 72 26).toInt ∧ (r11.2.1 72 26).toInt ≤ 16383 := ki104.1 72 26
                          have kc812 : (r11.2.1 72 26).toInt = ((sm_w1 r7.2 77 ((m.1 72 25)).toNatClampNeg r7.1).1 72 26).toInt := congrArg Int32.toInt (kf105 72 26 rfl)
                          have kc813 : 0 ≤ ((sm_w1 r7.2 77 ((m.1 72 25)).toNatClampNeg r7.1).1 72 26).toInt ∧ ((sm_w1 r7.2 77 ((m.1 72 25)).toNatClampNeg r7.1).1 72 26).toInt ≤ 16383 := ki90.1 72 26
                          have kc814 : ((sm_w1 r7.2 77 ((m.1 72 25)).toNatClampNeg r7.1).1 72 26).toInt = (r7.2.1 72 26).toInt := congrArg Int32.toInt (r_cell (by decide))
                          have kc815 : 0 ≤ (r7.2.1 72 26).toInt ∧ (r7.2.1 72 26).toInt ≤ 16383 := ki55.1 72 26
                          have kc816 : (r7.2.1 72 26).toInt = ((sm_w1 r2.2 76 ((m.1 72 25)).toNatClampNeg r2.1).1 72 26).toInt := congrArg Int32.toInt (kf56 72 26 rfl)
                          have kc817 : 0 ≤ ((sm_w1 r2.2 76 ((m.1 72 25)).toNatClampNeg r2.1).1 72 26).toInt ∧ ((sm_w1 r2.2 76 ((m.1 72 25)).toNatClampNeg r2.1).1 72 26).toInt ≤ 16383 := ki43.1 72 26
                          have kc818 : ((sm_w1 r2.2 76 ((m.1 72 25)).toNatClampNeg r2.1).1 72 26).toInt = (r2.2.1 72 26).toInt := congrArg Int32.toInt (r_cell (by decide))
                          have kc819 : 0 ≤ (r2.2.1 72 26).toInt ∧ (r2.2.1 72 26).toInt ≤ 16383 := ki11.1 72 26
                          have kc820 : (r2.2.1 72 26).toInt = (m.1 72 26).toInt := congrArg Int32.toInt (kf12 72 26 rfl)
                          have kc821 : 0 ≤ (m.1 72 26).toInt ∧ (m.1 72 26).toInt ≤ 16383 := hI.1 72 26
                          have kc822 := L31
                          have kc823 : 0 ≤ ((m.1 72 25) &&& (31 : Int32)).toInt ∧ ((m.1 72 25) &&& (31 : Int32)).toInt ≤ ((31 : Int32)).toInt := a_andr (by omega)
                          have kc824 : 0 ≤ ((m.1 72 25) &&& (31 : Int32)).toInt ∧ ((m.1 72 25) &&& (31 : Int32)).toInt ≤ ((m.1 72 25)).toInt := a_andl (by omega)
                          have kc825 : 1 ≤ ((1 : Int32) <<< ((m.1 72 25) &&& (31 : Int32))).toInt ∧ ((1 : Int32) <<< ((m.1 72 25) &&& (31 : Int32))).toInt ≤ 8192 := a_shl 13 (by decide) (by decide) (by omega) (by omega)
                          have kc826 : 0 ≤ ((r37.2.1 72 26) ||| ((1 : Int32) <<< ((m.1 72 25) &&& (31 : Int32)))).toInt ∧ ((r37.2.1 72 26) ||| ((1 : Int32) <<< ((m.1 72 25) &&& (31 : Int32)))).toInt < 16384 := a_or 14 (by decide) (by decide) (by omega) (by omega) (by omega) (by omega)
                          have ki827 : zI (sm_w1 r41.2 72 26 ((r37.2.1 72 26) ||| ((1 : Int32) <<< ((m.1 72 25) &&& (31 : Int32))))) := zI.w ki658 rfl (show 0 ≤ (((r37.2.1 72 26) ||| ((1 : Int32) <<< ((m.1 72 25) &&& (31 : Int32))))).toInt ∧ (((r37.2.1 72 26) ||| ((1 : Int32) <<< ((m.1 72 25) &&& (31 : Int32))))).toInt ≤ 16383 by omega)
                          have ki828 : zI (sm_w1 (sm_w1 r41.2 72 26 ((r37.2.1 72 26) ||| ((1 : Int32) <<< ((m.1 72 25) &&& (31 : Int32))))) 83 ((m.1 72 25)).toNatClampNeg (-1 : Int32)) := zI.w ki827 rfl (rg _)
                          have kc829 : ((r41.2.1 72 25) + (1 : Int32)).toInt = ((r41.2.1 72 25)).toInt + 1 := a_addl L1 (by omega) (by omega)
                          have kc831 : 0 ≤ ((sm_w1 (sm_w1 r41.2 72 26 ((r37.2.1 72 26) ||| ((1 : Int32) <<< ((m.1 72 25) &&& (31 : Int32))))) 83 ((m.1 72 25)).toNatClampNeg (-1 : Int32)).1 72 6).toInt ∧ ((sm_w1 (sm_w1 r41.2 72 26 ((r37.2.1 72 26) ||| ((1 : Int32) <<< ((m.1 72 25) &&& (31 : Int32))))) 83 ((m.1 72 25)).toNatClampNeg (-1 : Int32)).1 72 6).toInt ≤ 14 := ki828.1 72 6
                          have kc832 : 0 ≤ ((sm_w1 (sm_w1 r41.2 72 26 ((r37.2.1 72 26) ||| ((1 : Int32) <<< ((m.1 72 25) &&& (31 : Int32))))) 83 ((m.1 72 25)).toNatClampNeg (-1 : Int32)).1 72 25).toInt ∧ ((sm_w1 (sm_w1 r41.2 72 26 ((r37.2.1 72 26) ||| ((1 : Int32) <<< ((m.1 72 25) &&& (31 : Int32))))) 83 ((m.1 72 25)).toNatClampNeg (-1 : Int32)).1 72 25).toInt ≤ 14 := ki828.1 72 25
                          have kc833 := zI.le ki828
                          have kc834 : ((sm_w1 (sm_w1 r41.2 72 26 ((r37.2.1 72 26) ||| ((1 : Int32) <<< ((m.1 72 25) &&& (31 : Int32))))) 83 ((m.1 72 25)).toNatClampNeg (-1 : Int32)).1 72 25).toInt = ((sm_w1 r41.2 72 26 ((r37.2.1 72 26) ||| ((1 : Int32) <<< ((m.1 72 25) &&& (31 : Int32))))).1 72 25).toInt := congrArg Int32.toInt (r_cell (by decide))
                          have kc835 : 0 ≤ ((sm_w1 r41.2 72 26 ((r37.2.1 72 26) ||| ((1 : Int32) <<< ((m.1 72 25) &&& (31 : Int32))))).1 72 25).toInt ∧ ((sm_w1 r41.2 72 26 ((r37.2.1 72 26) ||| ((1 : Int32) <<< ((m.1 72 25) &&& (31 : Int32))))).1 72 25).toInt ≤ 14 := ki827.1 72 25
                          have kc836 : 0 ≤ ((sm_w1 r41.2 72 26 ((r37.2.1 72 26) ||| ((1 : Int32) <<< ((m.1 72 25) &&& (31 : Int32))))).1 72 6).toInt ∧ ((sm_w1 r41.2 72 26 ((r37.2.1 72 26) ||| ((1 : Int32) <<< ((m.1 72 25) &&& (31 : Int32))))).1 72 6).toInt ≤ 14 := ki827.1 72 6
                          have kc837 := zI.le ki827
                          have kc838 : ((sm_w1 r41.2 72 26 ((r37.2.1 72 26) ||| ((1 : Int32) <<< ((m.1 72 25) &&& (31 : Int32))))).1 72 6).toInt = (r41.2.1 72 6).toInt := rfl
                          have kc839 : ((sm_w1 r41.2 72 26 ((r37.2.1 72 26) ||| ((1 : Int32) <<< ((m.1 72 25) &&& (31 : Int32))))).1 72 25).toInt = (r41.2.1 72 25).toInt := rfl
                          have kc840 : ((sm_w1 (sm_w1 r41.2 72 26 ((r37.2.1 72 26) ||| ((1 : Int32) <<< ((m.1 72 25) &&& (31 : Int32))))) 83 ((m.1 72 25)).toNatClampNeg (-1 : Int32)).1 72 6).toInt = ((sm_w1 r41.2 72 26 ((r37.2.1 72 26) ||| ((1 : Int32) <<< ((m.1 72 25) &&& (31 : Int32))))).1 72 6).toInt := congrArg Int32.toInt (r_cell (by decide))
                          have kc841 := a_tn (show 0 ≤ (m.1 72 25).toInt by omega)
                          have kc842 : (-1 : Int) ≤ ((sm_w1 (sm_w1 r41.2 72 26 ((r37.2.1 72 26) ||| ((1 : Int32) <<< ((m.1 72 25) &&& (31 : Int32))))) 83 ((m.1 72 25)).toNatClampNeg (-1 : Int32)).1 76 ((m.1 72 25)).toNatClampNeg).toInt ∧ ((sm_w1 (sm_w1 r41.2 72 26 ((r37.2.1 72 26) ||| ((1 : Int32) <<< ((m.1 72 25) &&& (31 : Int32))))) 83 ((m.1 72 25)).toNatClampNeg (-1 : Int32)).1 76 ((m.1 72 25)).toNatClampNeg).toInt ≤ 9 := ki828.1 76 ((m.1 72 25)).toNatClampNeg
                          have kc843 := zI.pf76 ki828 (m.1 72 25)
                          have kc844 : ((sm_w1 (sm_w1 r41.2 72 26 ((r37.2.1 72 26) ||| ((1 : Int32) <<< ((m.1 72 25) &&& (31 : Int32))))) 83 ((m.1 72 25)).toNatClampNeg (-1 : Int32)).1 76 ((m.1 72 25)).toNatClampNeg).toInt = ((sm_w1 r41.2 72 26 ((r37.2.1 72 26) ||| ((1 : Int32) <<< ((m.1 72 25) &&& (31 : Int32))))).1 76 ((m.1 72 25)).toNatClampNeg).toInt := congrArg Int32.toInt (r_cell (by decide))
                          have kc845 : (-1 : Int) ≤ ((sm_w1 r41.2 72 26 ((r37.2.1 72 26) ||| ((1 : Int32) <<< ((m.1 72 25) &&& (31 : Int32))))).1 76 ((m.1 72 25)).toNatClampNeg).toInt ∧ ((sm_w1 r41.2 72 26 ((r37.2.1 72 26) ||| ((1 : Int32) <<< ((m.1 72 25) &&& (31 : Int32))))).1 76 ((m.1 72 25)).toNatClampNeg).toInt ≤ 9 := ki827.1 76 ((m.1 72 25)).toNatClampNeg
                          have kc846 := zI.pf76 ki827 (m.1 72 25)
                          have kc847 : ((sm_w1 r41.2 72 26 ((r37.2.1 72 26) ||| ((1 : Int32) <<< ((m.1 72 25) &&& (31 : Int32))))).1 76 ((m.1 72 25)).toNatClampNeg).toInt = (r41.2.1 76 ((m.1 72 25)).toNatClampNeg).toInt := congrArg Int32.toInt (r_cell (by decide))
                          have kc848 : (-1 : Int) ≤ ((sm_w1 (sm_w1 r41.2 72 26 ((r37.2.1 72 26) ||| ((1 : Int32) <<< ((m.1 72 25) &&& (31 : Int32))))) 83 ((m.1 72 25)).toNatClampNeg (-1 : Int32)).1 77 ((m.1 72 25)).toNatClampNeg).toInt ∧ ((sm_w1 (sm_w1 r41.2 72 26 ((r37.2.1 72 26) ||| ((1 : Int32) <<< ((m.1 72 25) &&& (31 : Int32))))) 83 ((m.1 72 25)).toNatClampNeg (-1 : Int32)).1 77 ((m.1 72 25)).toNatClampNeg).toInt ≤ 9 := ki828.1 77 ((m.1 72 25)).toNatClampNeg
                          have kc849 := zI.pf77 ki828 (m.1 72 25)
                          have kc850 : ((sm_w1 (sm_w1 r41.2 72 26 ((r37.2.1 72 26) ||| ((1 : Int32) <<< ((m.1 72 25) &&& (31 : Int32))))) 83 ((m.1 72 25)).toNatClampNeg (-1 : Int32)).1 77 ((m.1 72 25)).toNatClampNeg).toInt = ((sm_w1 r41.2 72 26 ((r37.2.1 72 26) ||| ((1 : Int32) <<< ((m.1 72 25) &&& (31 : Int32))))).1 77 ((m.1 72 25)).toNatClampNeg).toInt := congrArg Int32.toInt (r_cell (by decide))
                          have kc851 : (-1 : Int) ≤ ((sm_w1 r41.2 72 26 ((r37.2.1 72 26) ||| ((1 : Int32) <<< ((m.1 72 25) &&& (31 : Int32))))).1 77 ((m.1 72 25)).toNatClampNeg).toInt ∧ ((sm_w1 r41.2 72 26 ((r37.2.1 72 26) ||| ((1 : Int32) <<< ((m.1 72 25) &&& (31 : Int32))))).1 77 ((m.1 72 25)).toNatClampNeg).toInt ≤ 9 := ki827.1 77 ((m.1 72 25)).toNatClampNeg
                          have kc852 := zI.pf77 ki827 (m.1 72 25)
                          have kc853 : ((sm_w1 r41.2 72 26 ((r37.2.1 72 26) ||| ((1 : Int32) <<< ((m.1 72 25) &&& (31 : Int32))))).1 77 ((m.1 72 25)).toNatClampNeg).toInt = (r41.2.1 77 ((m.1 72 25)).toNatClampNeg).toInt := congrArg Int32.toInt (r_cell (by decide))
                          have kc854 : (-1 : Int) ≤ ((sm_w1 (sm_w1 r41.2 72 26 ((r37.2.1 72 26) ||| ((1 : Int32) <<< ((m.1 72 25) &&& (31 : Int32))))) 83 ((m.1 72 25)).toNatClampNeg (-1 : Int32)).1 78 ((m.1 72 25)).toNatClampNeg).toInt ∧ ((sm_w1 (sm_w1 r41.2 72 26 ((r37.2.1 72 26) ||| ((1 : Int32) <<< ((m.1 72 25) &&& (31 : Int32))))) 83 ((m.1 72 25)).toNatClampNeg (-1 : Int32)).1 78 ((m.1 72 25)).toNatClampNeg).toInt ≤ 20 := ki828.1 78 ((m.1 72 25)).toNatClampNeg
                          have kc855 := zI.pf78 ki828 (m.1 72 25)
                          have kc856 : ((sm_w1 (sm_w1 r41.2 72 26 ((r37.2.1 72 26) ||| ((1 : Int32) <<< ((m.1 72 25) &&& (31 : Int32))))) 83 ((m.1 72 25)).toNatClampNeg (-1 : Int32)).1 78 ((m.1 72 25)).toNatClampNeg).toInt = ((sm_w1 r41.2 72 26 ((r37.2.1 72 26) ||| ((1 : Int32) <<< ((m.1 72 25) &&& (31 : Int32))))).1 78 ((m.1 72 25)).toNatClampNeg).toInt := congrArg Int32.toInt (r_cell (by decide))
                          have kc857 : (-1 : Int) ≤ ((sm_w1 r41.2 72 26 ((r37.2.1 72 26) ||| ((1 : Int32) <<< ((m.1 72 25) &&& (31 : Int32))))).1 78 ((m.1 72 25)).toNatClampNeg).toInt ∧ ((sm_w1 r41.2 72 26 ((r37.2.1 72 26) ||| ((1 : Int32) <<< ((m.1 72 25) &&& (31 : Int32))))).1 78 ((m.1 72 25)).toNatClampNeg).toInt ≤ 20 := ki827.1 78 ((m.1 72 25)).toNatClampNeg
                          have kc858 := zI.pf78 ki827 (m.1 72 25)
                          have kc859 : ((sm_w1 r41.2 72 26 ((r37.2.1 72 26) ||| ((1 : Int32) <<< ((m.1 72 25) &&& (31 : Int32))))).1 78 ((m.1 72 25)).toNatClampNeg).toInt = (r41.2.1 78 ((m.1 72 25)).toNatClampNeg).toInt := congrArg Int32.toInt (r_cell (by decide))
                          have kc860 : (-1 : Int) ≤ ((sm_w1 (sm_w1 r41.2 72 26 ((r37.2.1 72 26) ||| ((1 : Int32) <<< ((m.1 72 25) &&& (31 : Int32))))) 83 ((m.1 72 25)).toNatClampNeg (-1 : Int32)).1 82 ((m.1 72 25)).toNatClampNeg).toInt ∧ ((sm_w1 (sm_w1 r41.2 72 26 ((r37.2.1 72 26) ||| ((1 : Int32) <<< ((m.1 72 25) &&& (31 : Int32))))) 83 ((m.1 72 25)).toNatClampNeg (-1 : Int32)).1 82 ((m.1 72 25)).toNatClampNeg).toInt ≤ 9 := ki828.1 82 ((m.1 72 25)).toNatClampNeg
                          have kc861 := zI.pf82 ki828 (m.1 72 25)
                          have kc862 : ((sm_w1 (sm_w1 r41.2 72 26 ((r37.2.1 72 26) ||| ((1 : Int32) <<< ((m.1 72 25) &&& (31 : Int32))))) 83 ((m.1 72 25)).toNatClampNeg (-1 : Int32)).1 82 ((m.1 72 25)).toNatClampNeg).toInt = ((sm_w1 r41.2 72 26 ((r37.2.1 72 26) ||| ((1 : Int32) <<< ((m.1 72 25) &&& (31 : Int32))))).1 82 ((m.1 72 25)).toNatClampNeg).toInt := congrArg Int32.toInt (r_cell (by decide))
                          have kc863 : (-1 : Int) ≤ ((sm_w1 r41.2 72 26 ((r37.2.1 72 26) ||| ((1 : Int32) <<< ((m.1 72 25) &&& (31 : Int32))))).1 82 ((m.1 72 25)).toNatClampNeg).toInt ∧ ((sm_w1 r41.2 72 26 ((r37.2.1 72 26) ||| ((1 : Int32) <<< ((m.1 72 25) &&& (31 : Int32))))).1 82 ((m.1 72 25)).toNatClampNeg).toInt ≤ 9 := ki827.1 82 ((m.1 72 25)).toNatClampNeg
                          have kc864 := zI.pf82 ki827 (m.1 72 25)
                          have kc865 : ((sm_w1 r41.2 72 26 ((r37.2.1 72 26) ||| ((1 : Int32) <<< ((m.1 72 25) &&& (31 : Int32))))).1 82 ((m.1 72 25)).toNatClampNeg).toInt = (r41.2.1 82 ((m.1 72 25)).toNatClampNeg).toInt := congrArg Int32.toInt (r_cell (by decide))
                          have ki830 : zI (sm_w1 (sm_w1 (sm_w1 r41.2 72 26 ((r37.2.1 72 26) ||| ((1 : Int32) <<< ((m.1 72 25) &&& (31 : Int32))))) 83 ((m.1 72 25)).toNatClampNeg (-1 : Int32)) 72 25 ((r41.2.1 72 25) + (1 : Int32))) := zI.w25b ((m.1 72 25)).toNatClampNeg ki828 (show 0 ≤ (((r41.2.1 72 25) + (1 : Int32))).toInt ∧ (((r41.2.1 72 25) + (1 : Int32))).toInt ≤ 14 by omega) (show (((r41.2.1 72 25) + (1 : Int32))).toInt = ((sm_w1 (sm_w1 r41.2 72 26 ((r37.2.1 72 26) ||| ((1 : Int32) <<< ((m.1 72 25) &&& (31 : Int32))))) 83 ((m.1 72 25)).toNatClampNeg (-1 : Int32)).1 72 25).toInt + 1 by omega) (show ((((m.1 72 25)).toNatClampNeg : Nat) : Int) = ((sm_w1 (sm_w1 r41.2 72 26 ((r37.2.1 72 26) ||| ((1 : Int32) <<< ((m.1 72 25) &&& (31 : Int32))))) 83 ((m.1 72 25)).toNatClampNeg (-1 : Int32)).1 72 25).toInt by omega) (show 0 ≤ ((sm_w1 (sm_w1 r41.2 72 26 ((r37.2.1 72 26) ||| ((1 : Int32) <<< ((m.1 72 25) &&& (31 : Int32))))) 83 ((m.1 72 25)).toNatClampNeg (-1 : Int32)).1 76 ((m.1 72 25)).toNatClampNeg).toInt by omega) (show 0 ≤ ((sm_w1 (sm_w1 r41.2 72 26 ((r37.2.1 72 26) ||| ((1 : Int32) <<< ((m.1 72 25) &&& (31 : Int32))))) 83 ((m.1 72 25)).toNatClampNeg (-1 : Int32)).1 77 ((m.1 72 25)).toNatClampNeg).toInt by omega) (show 1 ≤ ((sm_w1 (sm_w1 r41.2 72 26 ((r37.2.1 72 26) ||| ((1 : Int32) <<< ((m.1 72 25) &&& (31 : Int32))))) 83 ((m.1 72 25)).toNatClampNeg (-1 : Int32)).1 78 ((m.1 72 25)).toNatClampNeg).toInt by omega) (show 0 ≤ ((sm_w1 (sm_w1 r41.2 72 26 ((r37.2.1 72 26) ||| ((1 : Int32) <<< ((m.1 72 25) &&& (31 : Int32))))) 83 ((m.1 72 25)).toNatClampNeg (-1 : Int32)).1 82 ((m.1 72 25)).toNatClampNeg).toInt by omega)
                          have kc866 : 0 ≤ ((sm_w1 (sm_w1 (sm_w1 r41.2 72 26 ((r37.2.1 72 26) ||| ((1 : Int32) <<< ((m.1 72 25) &&& (31 : Int32))))) 83 ((m.1 72 25)).toNatClampNeg (-1 : Int32)) 72 25 ((r41.2.1 72 25) + (1 : Int32))).1 72 22).toInt ∧ ((sm_w1 (sm_w1 (sm_w1 r41.2 72 26 ((r37.2.1 72 26) ||| ((1 : Int32) <<< ((m.1 72 25) &&& (31 : Int32))))) 83 ((m.1 72 25)).toNatClampNeg (-1 : Int32)) 72 25 ((r41.2.1 72 25) + (1 : Int32))).1 72 22).toInt ≤ 80 := ki830.1 72 22
                          have kc867 : ((sm_w1 (sm_w1 (sm_w1 r41.2 72 26 ((r37.2.1 72 26) ||| ((1 : Int32) <<< ((m.1 72 25) &&& (31 : Int32))))) 83 ((m.1 72 25)).toNatClampNeg (-1 : Int32)) 72 25 ((r41.2.1 72 25) + (1 : Int32))).1 72 22).toInt = ((sm_w1 (sm_w1 r41.2 72 26 ((r37.2.1 72 26) ||| ((1 : Int32) <<< ((m.1 72 25) &&& (31 : Int32))))) 83 ((m.1 72 25)).toNatClampNeg (-1 : Int32)).1 72 22).toInt := rfl
                          have kc868 : 0 ≤ ((sm_w1 (sm_w1 r41.2 72 26 ((r37.2.1 72 26) ||| ((1 : Int32) <<< ((m.1 72 25) &&& (31 : Int32))))) 83 ((m.1 72 25)).toNatClampNeg (-1 : Int32)).1 72 22).toInt ∧ ((sm_w1 (sm_w1 r41.2 72 26 ((r37.2.1 72 26) ||| ((1 : Int32) <<< ((m.1 72 25) &&& (31 : Int32))))) 83 ((m.1 72 25)).toNatClampNeg (-1 : Int32)).1 72 22).toInt ≤ 80 := ki828.1 72 22
                          have kc869 : ((sm_w1 (sm_w1 r41.2 72 26 ((r37.2.1 72 26) ||| ((1 : Int32) <<< ((m.1 72 25) &&& (31 : Int32))))) 83 ((m.1 72 25)).toNatClampNeg (-1 : Int32)).1 72 22).toInt = ((sm_w1 r41.2 72 26 ((r37.2.1 72 26) ||| ((1 : Int32) <<< ((m.1 72 25) &&& (31 : Int32))))).1 72 22).toInt := congrArg Int32.toInt (r_cell (by decide))
                          have kc870 : 0 ≤ ((sm_w1 r41.2 72 26 ((r37.2.1 72 26) ||| ((1 : Int32) <<< ((m.1 72 25) &&& (31 : Int32))))).1 72 22).toInt ∧ ((sm_w1 r41.2 72 26 ((r37.2.1 72 26) ||| ((1 : Int32) <<< ((m.1 72 25) &&& (31 : Int32))))).1 72 22).toInt ≤ 80 := ki827.1 72 22
                          have kc871 : ((sm_w1 r41.2 72 26 ((r37.2.1 72 26) ||| ((1 : Int32) <<< ((m.1 72 25) &&& (31 : Int32))))).1 72 22).toInt = (r41.2.1 72 22).toInt := rfl
                          have kf872 : Fr wX12_readsHedge m r2.2 := Fr.trans Fr.refl kf12 rfl
                          have kf873 : Fr wX12_readsHedge m (sm_w1 r2.2 76 ((m.1 72 25)).toNatClampNeg r2.1) := Fr.w kf872 rfl
                          have kf874 : Fr wX12_readsHedge m r7.2 := Fr.trans kf873 kf56 rfl
                          have kf875 : Fr wX12_readsHedge m (sm_w1 r7.2 77 ((m.1 72 25)).toNatClampNeg r7.1) := Fr.w kf874 rfl
                          have kf876 : Fr wX12_readsHedge m r11.2 := Fr.trans kf875 kf105 rfl
                          have kf877 : Fr wX12_readsHedge m (sm_w1 r11.2 78 ((m.1 72 25)).toNatClampNeg r11.1) := Fr.w kf876 rfl
                          have kf878 : Fr wX12_readsHedge m r15.2 := Fr.trans kf877 kf157 rfl
                          have kf879 : Fr wX12_readsHedge m r17.2 := Fr.trans kf878 kf207 rfl
                          have kf880 : Fr wX12_readsHedge m (sm_w1 r17.2 79 ((m.1 72 25)).toNatClampNeg r17.1) := Fr.w kf879 rfl
                          have kf881 : Fr wX12_readsHedge m r21.2 := Fr.trans kf880 kf235 rfl
                          have kf882 : Fr wX12_readsHedge m (sm_w1 r21.2 80 ((m.1 72 25)).toNatClampNeg r21.1) := Fr.w kf881 rfl
                          have kf883 : Fr wX12_readsHedge m r25.2 := Fr.trans kf882 kf285 rfl
                          have kf884 : Fr wX12_readsHedge m (sm_w1 r25.2 81 ((m.1 72 25)).toNatClampNeg (1 : Int32)) := Fr.w kf883 rfl
                          have kf885 : Fr wX12_readsHedge m r29.2 := Fr.trans kf884 kf336 rfl
                          have kf886 : Fr wX12_readsHedge m r37.2 := Fr.trans kf885 kf624 rfl
                          have kf887 : Fr wX12_readsHedge m (sm_w1 r37.2 82 ((m.1 72 25)).toNatClampNeg r37.1) := Fr.w kf886 rfl
                          have kf888 : Fr wX12_readsHedge m r41.2 := Fr.trans kf887 kf659 rfl
                          have kf889 : Fr wX12_readsHedge m (sm_w1 r41.2 72 26 ((r37.2.1 72 26) ||| ((1 : Int32) <<< ((m.1 72 25) &&& (31 : Int32))))) := Fr.w kf888 rfl
                          have kf890 : Fr wX12_readsHedge m (sm_w1 (sm_w1 r41.2 72 26 ((r37.2.1 72 26) ||| ((1 : Int32) <<< ((m.1 72 25) &&& (31 : Int32))))) 83 ((m.1 72 25)).toNatClampNeg (-1 : Int32)) := Fr.w kf889 rfl
                          have kf891 : Fr wX12_readsHedge m (sm_w1 (sm_w1 (sm_w1 r41.2 72 26 ((r37.2.1 72 26) ||| ((1 : Int32) <<< ((m.1 72 25) &&& (31 : Int32))))) 83 ((m.1 72 25)).toNatClampNeg (-1 : Int32)) 72 25 ((r41.2.1 72 25) + (1 : Int32))) := Fr.w kf890 rfl
                          exact s_ret ⟨(show (0 ≤ (1 : Int32).toInt) ∧ ((1 : Int32).toInt ≤ 1) ∧ ((m.1 72 22).toInt ≤ ((sm_w1 (sm_w1 (sm_w1 r41.2 72 26 ((r37.2.1 72 26) ||| ((1 : Int32) <<< ((m.1 72 25) &&& (31 : Int32))))) 83 ((m.1 72 25)).toNatClampNeg (-1 : Int32)) 72 25 ((r41.2.1 72 25) + (1 : Int32))).1 72 22).toInt) by omega), ki830, kf891⟩
                      · have kc892 : 0 ≤ ((sm_w1 r37.2 82 ((m.1 72 25)).toNatClampNeg r37.1).1 72 22).toInt ∧ ((sm_w1 r37.2 82 ((m.1 72 25)).toNatClampNeg r37.1).1 72 22).toInt ≤ 80 := ki645.1 72 22
                        have kc893 : ((sm_w1 r37.2 82 ((m.1 72 25)).toNatClampNeg r37.1).1 72 22).toInt = (r37.2.1 72 22).toInt := congrArg Int32.toInt (r_cell (by decide))
                        have kf894 : Fr wX12_readsHedge m r2.2 := Fr.trans Fr.refl kf12 rfl
                        have kf895 : Fr wX12_readsHedge m (sm_w1 r2.2 76 ((m.1 72 25)).toNatClampNeg r2.1) := Fr.w kf894 rfl
                        have kf896 : Fr wX12_readsHedge m r7.2 := Fr.trans kf895 kf56 rfl
                        have kf897 : Fr wX12_readsHedge m (sm_w1 r7.2 77 ((m.1 72 25)).toNatClampNeg r7.1) := Fr.w kf896 rfl
                        have kf898 : Fr wX12_readsHedge m r11.2 := Fr.trans kf897 kf105 rfl
                        have kf899 : Fr wX12_readsHedge m (sm_w1 r11.2 78 ((m.1 72 25)).toNatClampNeg r11.1) := Fr.w kf898 rfl
                        have kf900 : Fr wX12_readsHedge m r15.2 := Fr.trans kf899 kf157 rfl
                        have kf901 : Fr wX12_readsHedge m r17.2 := Fr.trans kf900 kf207 rfl
                        have kf902 : Fr wX12_readsHedge m (sm_w1 r17.2 79 ((m.1 72 25)).toNatClampNeg r17.1) := Fr.w kf901 rfl
                        have kf903 : Fr wX12_readsHedge m r21.2 := Fr.trans kf902 kf235 rfl
                        have kf904 : Fr wX12_readsHedge m (sm_w1 r21.2 80 ((m.1 72 25)).toNatClampNeg r21.1) := Fr.w kf903 rfl
                        have kf905 : Fr wX12_readsHedge m r25.2 := Fr.trans kf904 kf285 rfl
                        have kf906 : Fr wX12_readsHedge m (sm_w1 r25.2 81 ((m.1 72 25)).toNatClampNeg (1 : Int32)) := Fr.w kf905 rfl
                        have kf907 : Fr wX12_readsHedge m r29.2 := Fr.trans kf906 kf336 rfl
                        have kf908 : Fr wX12_readsHedge m r37.2 := Fr.trans kf907 kf624 rfl
                        have kf909 : Fr wX12_readsHedge m (sm_w1 r37.2 82 ((m.1 72 25)).toNatClampNeg r37.1) := Fr.w kf908 rfl
                        exact s_ret ⟨(show (0 ≤ (0 : Int32).toInt) ∧ ((0 : Int32).toInt ≤ 1) ∧ ((m.1 72 22).toInt ≤ ((sm_w1 r37.2 82 ((m.1 72 25)).toNatClampNeg r37.1).1 72 22).toInt) by omega), ki645, kf909⟩
                  · omega
                · have kc910 := L9
                  refine s_bd (zX12_digit (9 : Int32) r25.2 (show 5 ≤ (9 : Int32).toInt ∧ (9 : Int32).toInt ≤ 9 by omega) ki284) (fun r45 kr911 => ?_)
                  obtain ⟨kp912, ki913, kf914⟩ := kr911
                  replace kp912 : ((-1 : Int) ≤ r45.1.toInt) ∧ (r45.1.toInt ≤ 9) ∧ ((r45.1.toInt < 0 ∧ (r45.2.1 72 22).toInt = (r25.2.1 72 22).toInt) ∨ (0 ≤ r45.1.toInt ∧ (r25.2.1 72 22).toInt < (r25.2.1 72 23).toInt ∧ (r45.2.1 72 22).toInt = (r25.2.1 72 22).toInt + 1)) := kp912
                  have kc915 : 0 ≤ (r45.2.1 72 22).toInt ∧ (r45.2.1 72 22).toInt ≤ 80 := ki913.1 72 22
                  have kc916 : 0 ≤ (r25.2.1 72 23).toInt ∧ (r25.2.1 72 23).toInt ≤ 76 := ki284.1 72 23
                  have kc917 : (r25.2.1 72 23).toInt = ((sm_w1 r21.2 80 ((m.1 72 25)).toNatClampNeg r21.1).1 72 23).toInt := congrArg Int32.toInt (kf285 72 23 rfl)
                  have kc918 : (-1 : Int) ≤ (r45.2.1 76 ((m.1 72 25)).toNatClampNeg).toInt ∧ (r45.2.1 76 ((m.1 72 25)).toNatClampNeg).toInt ≤ 9 := ki913.1 76 ((m.1 72 25)).toNatClampNeg
                  have kc919 : 0 ≤ (r45.2.1 72 6).toInt ∧ (r45.2.1 72 6).toInt ≤ 14 := ki913.1 72 6
                  have kc920 : 0 ≤ (r45.2.1 72 25).toInt ∧ (r45.2.1 72 25).toInt ≤ 14 := ki913.1 72 25
                  have kc921 := zI.le ki913
                  have kc922 : (r45.2.1 72 25).toInt = (r25.2.1 72 25).toInt := congrArg Int32.toInt (kf914 72 25 rfl)
                  have kc923 : (r45.2.1 72 6).toInt = (r25.2.1 72 6).toInt := congrArg Int32.toInt (kf914 72 6 rfl)
                  have kc924 := zI.pf76 ki913 (m.1 72 25)
                  have kc925 : (r45.2.1 76 ((m.1 72 25)).toNatClampNeg).toInt = (r25.2.1 76 ((m.1 72 25)).toNatClampNeg).toInt := congrArg Int32.toInt (kf914 76 ((m.1 72 25)).toNatClampNeg rfl)
                  have kc926 : (-1 : Int) ≤ (r45.2.1 77 ((m.1 72 25)).toNatClampNeg).toInt ∧ (r45.2.1 77 ((m.1 72 25)).toNatClampNeg).toInt ≤ 9 := ki913.1 77 ((m.1 72 25)).toNatClampNeg
                  have kc927 := zI.pf77 ki913 (m.1 72 25)
                  have kc928 : (r45.2.1 77 ((m.1 72 25)).toNatClampNeg).toInt = (r25.2.1 77 ((m.1 72 25)).toNatClampNeg).toInt := congrArg Int32.toInt (kf914 77 ((m.1 72 25)).toNatClampNeg rfl)
                  have kc929 : (-1 : Int) ≤ (r45.2.1 78 ((m.1 72 25)).toNatClampNeg).toInt ∧ (r45.2.1 78 ((m.1 72 25)).toNatClampNeg).toInt ≤ 20 := ki913.1 78 ((m.1 72 25)).toNatClampNeg
                  have kc930 := zI.pf78 ki913 (m.1 72 25)
                  have kc931 : (r45.2.1 78 ((m.1 72 25)).toNatClampNeg).toInt = (r25.2.1 78 ((m.1 72 25)).toNatClampNeg).toInt := congrArg Int32.toInt (kf914 78 ((m.1 72 25)).toNatClampNeg rfl)
                  have kc932 : (-1 : Int) ≤ (r45.2.1 82 ((m.1 72 25)).toNatClampNeg).toInt ∧ (r45.2.1 82 ((m.1 72 25)).toNatClampNeg).toInt ≤ 9 := ki913.1 82 ((m.1 72 25)).toNatClampNeg
                  have kc933 := zI.pf82 ki913 (m.1 72 25)
                  have kc934 : (r45.2.1 82 ((m.1 72 25)).toNatClampNeg).toInt = (r25.2.1 82 ((m.1 72 25)).toNatClampNeg).toInt := congrArg Int32.toInt (kf914 82 ((m.1 72 25)).toNatClampNeg rfl)
                  refine s_ix kx41 ?_
                  refine s_ix kx41 ?_
                  have ki935 : zI (sm_w1 r45.2 81 ((m.1 72 25)).toNatClampNeg r45.1) := zI.w ki913 rfl (show (-1 : Int) ≤ (r45.1).toInt ∧ (r45.1).toInt ≤ 9 by omega)
                  have kc936 : (-1 : Int) ≤ ((sm_w1 r45.2 81 ((m.1 72 25)).toNatClampNeg r45.1).1 81 ((m.1 72 25)).toNatClampNeg).toInt ∧ ((sm_w1 r45.2 81 ((m.1 72 25)).toNatClampNeg r45.1).1 81 ((m.1 72 25)).toNatClampNeg).toInt ≤ 9 := ki935.1 81 ((m.1 72 25)).toNatClampNeg
                  have kc937 : ((sm_w1 r45.2 81 ((m.1 72 25)).toNatClampNeg r45.1).1 81 ((m.1 72 25)).toNatClampNeg).toInt = (r45.1).toInt := congrArg Int32.toInt r_hit
                  refine s_le (fun kh938 => ?_) (fun kh938 => ?_)
                  · have kc939 := L126
                    refine s_bd (zX12_takes (126 : Int32) (sm_w1 r45.2 81 ((m.1 72 25)).toNatClampNeg r45.1) (show 58 ≤ (126 : Int32).toInt ∧ (126 : Int32).toInt ≤ 126 by omega) ki935) (fun r49 kr940 => ?_)
                    obtain ⟨kp941, ki942, kf943⟩ := kr940
                    replace kp941 : (0 ≤ r49.1.toInt) ∧ (r49.1.toInt ≤ 1) ∧ ((r49.1.toInt = 0 ∧ (r49.2.1 72 22).toInt = ((sm_w1 r45.2 81 ((m.1 72 25)).toNatClampNeg r45.1).1 72 22).toInt) ∨ (r49.1.toInt = 1 ∧ ((sm_w1 r45.2 81 ((m.1 72 25)).toNatClampNeg r45.1).1 72 22).toInt < ((sm_w1 r45.2 81 ((m.1 72 25)).toNatClampNeg r45.1).1 72 23).toInt ∧ (r49.2.1 72 22).toInt = ((sm_w1 r45.2 81 ((m.1 72 25)).toNatClampNeg r45.1).1 72 22).toInt + 1)) := kp941
                    have kc944 : 0 ≤ (r49.2.1 72 22).toInt ∧ (r49.2.1 72 22).toInt ≤ 80 := ki942.1 72 22
                    have kc945 : 0 ≤ ((sm_w1 r45.2 81 ((m.1 72 25)).toNatClampNeg r45.1).1 72 22).toInt ∧ ((sm_w1 r45.2 81 ((m.1 72 25)).toNatClampNeg r45.1).1 72 22).toInt ≤ 80 := ki935.1 72 22
                    have kc946 : ((sm_w1 r45.2 81 ((m.1 72 25)).toNatClampNeg r45.1).1 72 22).toInt = (r45.2.1 72 22).toInt := congrArg Int32.toInt (r_cell (by decide))
                    have kc947 : 0 ≤ ((sm_w1 r45.2 81 ((m.1 72 25)).toNatClampNeg r45.1).1 72 23).toInt ∧ ((sm_w1 r45.2 81 ((m.1 72 25)).toNatClampNeg r45.1).1 72 23).toInt ≤ 76 := ki935.1 72 23
                    have kc948 : ((sm_w1 r45.2 81 ((m.1 72 25)).toNatClampNeg r45.1).1 72 23).toInt = (r45.2.1 72 23).toInt := congrArg Int32.toInt (r_cell (by decide))
                    have kc949 : 0 ≤ (r45.2.1 72 23).toInt ∧ (r45.2.1 72 23).toInt ≤ 76 := ki913.1 72 23
                    have kc950 : (r45.2.1 72 23).toInt = (r25.2.1 72 23).toInt := congrArg Int32.toInt (kf914 72 23 rfl)
                    have kc951 : (-1 : Int) ≤ (r49.2.1 76 ((m.1 72 25)).toNatClampNeg).toInt ∧ (r49.2.1 76 ((m.1 72 25)).toNatClampNeg).toInt ≤ 9 := ki942.1 76 ((m.1 72 25)).toNatClampNeg
                    have kc952 : 0 ≤ (r49.2.1 72 6).toInt ∧ (r49.2.1 72 6).toInt ≤ 14 := ki942.1 72 6
                    have kc953 : 0 ≤ (r49.2.1 72 25).toInt ∧ (r49.2.1 72 25).toInt ≤ 14 := ki942.1 72 25
                    have kc954 := zI.le ki942
                    have kc955 : (r49.2.1 72 25).toInt = ((sm_w1 r45.2 81 ((m.1 72 25)).toNatClampNeg r45.1).1 72 25).toInt := congrArg Int32.toInt (kf943 72 25 rfl)
                    have kc956 : 0 ≤ ((sm_w1 r45.2 81 ((m.1 72 25)).toNatClampNeg r45.1).1 72 25).toInt ∧ ((sm_w1 r45.2 81 ((m.1 72 25)).toNatClampNeg r45.1).1 72 25).toInt ≤ 14 := ki935.1 72 25
                    have kc957 : 0 ≤ ((sm_w1 r45.2 81 ((m.1 72 25)).toNatClampNeg r45.1).1 72 6).toInt ∧ ((sm_w1 r45.2 81 ((m.1 72 25)).toNatClampNeg r45.1).1 72 6).toInt ≤ 14 := ki935.1 72 6
                    have kc958 := zI.le ki935
                    have kc959 : ((sm_w1 r45.2 81 ((m.1 72 25)).toNatClampNeg r45.1).1 72 6).toInt = (r45.2.1 72 6).toInt := congrArg Int32.toInt (r_cell (by decide))
                    have kc960 : ((sm_w1 r45.2 81 ((m.1 72 25)).toNatClampNeg r45.1).1 72 25).toInt = (r45.2.1 72 25).toInt := congrArg Int32.toInt (r_cell (by decide))
                    have kc961 : (r49.2.1 72 6).toInt = ((sm_w1 r45.2 81 ((m.1 72 25)).toNatClampNeg r45.1).1 72 6).toInt := congrArg Int32.toInt (kf943 72 6 rfl)
                    have kc962 := zI.pf76 ki942 (m.1 72 25)
                    have kc963 : (r49.2.1 76 ((m.1 72 25)).toNatClampNeg).toInt = ((sm_w1 r45.2 81 ((m.1 72 25)).toNatClampNeg r45.1).1 76 ((m.1 72 25)).toNatClampNeg).toInt := congrArg Int32.toInt (kf943 76 ((m.1 72 25)).toNatClampNeg rfl)
                    have kc964 : (-1 : Int) ≤ ((sm_w1 r45.2 81 ((m.1 72 25)).toNatClampNeg r45.1).1 76 ((m.1 72 25)).toNatClampNeg).toInt ∧ ((sm_w1 r45.2 81 ((m.1 72 25)).toNatClampNeg r45.1).1 76 ((m.1 72 25)).toNatClampNeg).toInt ≤ 9 := ki935.1 76 ((m.1 72 25)).toNatClampNeg
                    have kc965 := zI.pf76 ki935 (m.1 72 25)
                    have kc966 : ((sm_w1 r45.2 81 ((m.1 72 25)).toNatClampNeg r45.1).1 76 ((m.1 72 25)).toNatClampNeg).toInt = (r45.2.1 76 ((m.1 72 25)).toNatClampNeg).toInt := congrArg Int32.toInt (r_cell (by decide))
                    have kc967 : (-1 : Int) ≤ (r49.2.1 77 ((m.1 72 25)).toNatClampNeg).toInt ∧ (r49.2.1 77 ((m.1 72 25)).toNatClampNeg).toInt ≤ 9 := ki942.1 77 ((m.1 72 25)).toNatClampNeg
                    have kc968 := zI.pf77 ki942 (m.1 72 25)
                    have kc969 : (r49.2.1 77 ((m.1 72 25)).toNatClampNeg).toInt = ((sm_w1 r45.2 81 ((m.1 72 25)).toNatClampNeg r45.1).1 77 ((m.1 72 25)).toNatClampNeg).toInt := congrArg Int32.toInt (kf943 77 ((m.1 72 25)).toNatClampNeg rfl)
                    have kc970 : (-1 : Int) ≤ ((sm_w1 r45.2 81 ((m.1 72 25)).toNatClampNeg r45.1).1 77 ((m.1 72 25)).toNatClampNeg).toInt ∧ ((sm_w1 r45.2 81 ((m.1 72 25)).toNatClampNeg r45.1).1 77 ((m.1 72 25)).toNatClampNeg).toInt ≤ 9 := ki935.1 77 ((m.1 72 25)).toNatClampNeg
                    have kc971 := zI.pf77 ki935 (m.1 72 25)
                    have kc972 : ((sm_w1 r45.2 81 ((m.1 72 25)).toNatClampNeg r45.1).1 77 ((m.1 72 25)).toNatClampNeg).toInt = (r45.2.1 77 ((m.1 72 25)).toNatClampNeg).toInt := congrArg Int32.toInt (r_cell (by decide))
                    have kc973 : (-1 : Int) ≤ (r49.2.1 78 ((m.1 72 25)).toNatClampNeg).toInt ∧ (r49.2.1 78 ((m.1 72 25)).toNatClampNeg).toInt ≤ 20 := ki942.1 78 ((m.1 72 25)).toNatClampNeg
                    have kc974 := zI.pf78 ki942 (m.1 72 25)
                    have kc975 : (r49.2.1 78 ((m.1 72 25)).toNatClampNeg).toInt = ((sm_w1 r45.2 81 ((m.1 72 25)).toNatClampNeg r45.1).1 78 ((m.1 72 25)).toNatClampNeg).toInt := congrArg Int32.toInt (kf943 78 ((m.1 72 25)).toNatClampNeg rfl)
                    have kc976 : (-1 : Int) ≤ ((sm_w1 r45.2 81 ((m.1 72 25)).toNatClampNeg r45.1).1 78 ((m.1 72 25)).toNatClampNeg).toInt ∧ ((sm_w1 r45.2 81 ((m.1 72 25)).toNatClampNeg r45.1).1 78 ((m.1 72 25)).toNatClampNeg).toInt ≤ 20 := ki935.1 78 ((m.1 72 25)).toNatClampNeg
                    have kc977 := zI.pf78 ki935 (m.1 72 25)
                    have kc978 : ((sm_w1 r45.2 81 ((m.1 72 25)).toNatClampNeg r45.1).1 78 ((m.1 72 25)).toNatClampNeg).toInt = (r45.2.1 78 ((m.1 72 25)).toNatClampNeg).toInt := congrArg Int32.toInt (r_cell (by decide))
                    have kc979 : (-1 : Int) ≤ (r49.2.1 82 ((m.1 72 25)).toNatClampNeg).toInt ∧ (r49.2.1 82 ((m.1 72 25)).toNatClampNeg).toInt ≤ 9 := ki942.1 82 ((m.1 72 25)).toNatClampNeg
                    have kc980 := zI.pf82 ki942 (m.1 72 25)
                    have kc981 : (r49.2.1 82 ((m.1 72 25)).toNatClampNeg).toInt = ((sm_w1 r45.2 81 ((m.1 72 25)).toNatClampNeg r45.1).1 82 ((m.1 72 25)).toNatClampNeg).toInt := congrArg Int32.toInt (kf943 82 ((m.1 72 25)).toNatClampNeg rfl)
                    have kc982 : (-1 : Int) ≤ ((sm_w1 r45.2 81 ((m.1 72 25)).toNatClampNeg r45.1).1 82 ((m.1 72 25)).toNatClampNeg).toInt ∧ ((sm_w1 r45.2 81 ((m.1 72 25)).toNatClampNeg r45.1).1 82 ((m.1 72 25)).toNatClampNeg).toInt ≤ 9 := ki935.1 82 ((m.1 72 25)).toNatClampNeg
                    have kc983 := zI.pf82 ki935 (m.1 72 25)
                    have kc984 : ((sm_w1 r45.2 81 ((m.1 72 25)).toNatClampNeg r45.1).1 82 ((m.1 72 25)).toNatClampNeg).toInt = (r45.2.1 82 ((m.1 72 25)).toNatClampNeg).toInt := congrArg Int32.toInt (r_cell (by decide))
                    refine s_eq (fun kh985 => ?_) (fun kh985 => ?_)
                    · refine s_ix kx41 ?_
                      refine s_ix kx41 ?_
                      have ki986 : zI (sm_w1 r49.2 82 ((m.1 72 25)).toNatClampNeg (0 : Int32)) := zI.w82 ki942 (show (-1 : Int) ≤ ((0 : Int32)).toInt ∧ ((0 : Int32)).toInt ≤ 9 by omega) (show 0 ≤ ((0 : Int32)).toInt ∨ (r49.2.1 72 25).toInt ≤ ((m.1 72 25)).toInt by omega) (show 0 ≤ ((m.1 72 25)).toInt by omega)
                      have kc987 : (-1 : Int) ≤ ((sm_w1 r49.2 82 ((m.1 72 25)).toNatClampNeg (0 : Int32)).1 82 ((m.1 72 25)).toNatClampNeg).toInt ∧ ((sm_w1 r49.2 82 ((m.1 72 25)).toNatClampNeg (0 : Int32)).1 82 ((m.1 72 25)).toNatClampNeg).toInt ≤ 9 := ki986.1 82 ((m.1 72 25)).toNatClampNeg
                      have kc988 : 0 ≤ ((sm_w1 r49.2 82 ((m.1 72 25)).toNatClampNeg (0 : Int32)).1 72 6).toInt ∧ ((sm_w1 r49.2 82 ((m.1 72 25)).toNatClampNeg (0 : Int32)).1 72 6).toInt ≤ 14 := ki986.1 72 6
                      have kc989 : 0 ≤ ((sm_w1 r49.2 82 ((m.1 72 25)).toNatClampNeg (0 : Int32)).1 72 25).toInt ∧ ((sm_w1 r49.2 82 ((m.1 72 25)).toNatClampNeg (0 : Int32)).1 72 25).toInt ≤ 14 := ki986.1 72 25
                      have kc990 := zI.le ki986
                      have kc991 : ((sm_w1 r49.2 82 ((m.1 72 25)).toNatClampNeg (0 : Int32)).1 72 25).toInt = (r49.2.1 72 25).toInt := congrArg Int32.toInt (r_cell (by decide))
                      have kc992 : ((sm_w1 r49.2 82 ((m.1 72 25)).toNatClampNeg (0 : Int32)).1 72 6).toInt = (r49.2.1 72 6).toInt := congrArg Int32.toInt (r_cell (by decide))
                      have kc993 := zI.pf82 ki986 (m.1 72 25)
                      have kc994 : ((sm_w1 r49.2 82 ((m.1 72 25)).toNatClampNeg (0 : Int32)).1 82 ((m.1 72 25)).toNatClampNeg).toInt = ((0 : Int32)).toInt := congrArg Int32.toInt r_hit
                      refine s_le (fun kh995 => ?_) (fun kh995 => ?_)
                      · have kc996 := L103
                        refine s_bd (zX12_takes (103 : Int32) (sm_w1 r49.2 82 ((m.1 72 25)).toNatClampNeg (0 : Int32)) (show 58 ≤ (103 : Int32).toInt ∧ (103 : Int32).toInt ≤ 126 by omega) ki986) (fun r53 kr997 => ?_)
                        obtain ⟨kp998, ki999, kf1000⟩ := kr997
                        replace kp998 : (0 ≤ r53.1.toInt) ∧ (r53.1.toInt ≤ 1) ∧ ((r53.1.toInt = 0 ∧ (r53.2.1 72 22).toInt = ((sm_w1 r49.2 82 ((m.1 72 25)).toNatClampNeg (0 : Int32)).1 72 22).toInt) ∨ (r53.1.toInt = 1 ∧ ((sm_w1 r49.2 82 ((m.1 72 25)).toNatClampNeg (0 : Int32)).1 72 22).toInt < ((sm_w1 r49.2 82 ((m.1 72 25)).toNatClampNeg (0 : Int32)).1 72 23).toInt ∧ (r53.2.1 72 22).toInt = ((sm_w1 r49.2 82 ((m.1 72 25)).toNatClampNeg (0 : Int32)).1 72 22).toInt + 1)) := kp998
                        have kc1001 : 0 ≤ (r53.2.1 72 22).toInt ∧ (r53.2.1 72 22).toInt ≤ 80 := ki999.1 72 22
                        have kc1002 : 0 ≤ ((sm_w1 r49.2 82 ((m.1 72 25)).toNatClampNeg (0 : Int32)).1 72 22).toInt ∧ ((sm_w1 r49.2 82 ((m.1 72 25)).toNatClampNeg (0 : Int32)).1 72 22).toInt ≤ 80 := ki986.1 72 22
                        have kc1003 : ((sm_w1 r49.2 82 ((m.1 72 25)).toNatClampNeg (0 : Int32)).1 72 22).toInt = (r49.2.1 72 22).toInt := congrArg Int32.toInt (r_cell (by decide))
                        have kc1004 : 0 ≤ ((sm_w1 r49.2 82 ((m.1 72 25)).toNatClampNeg (0 : Int32)).1 72 23).toInt ∧ ((sm_w1 r49.2 82 ((m.1 72 25)).toNatClampNeg (0 : Int32)).1 72 23).toInt ≤ 76 := ki986.1 72 23
                        have kc1005 : ((sm_w1 r49.2 82 ((m.1 72 25)).toNatClampNeg (0 : Int32)).1 72 23).toInt = (r49.2.1 72 23).toInt := congrArg Int32.toInt (r_cell (by decide))
                        have kc1006 : 0 ≤ (r49.2.1 72 23).toInt ∧ (r49.2.1 72 23).toInt ≤ 76 := ki942.1 72 23
                        have kc1007 : (r49.2.1 72 23).toInt = ((sm_w1 r45.2 81 ((m.1 72 25)).toNatClampNeg r45.1).1 72 23).toInt := congrArg Int32.toInt (kf943 72 23 rfl)
                        have kc1008 : (-1 : Int) ≤ (r53.2.1 76 ((m.1 72 25)).toNatClampNeg).toInt ∧ (r53.2.1 76 ((m.1 72 25)).toNatClampNeg).toInt ≤ 9 := ki999.1 76 ((m.1 72 25)).toNatClampNeg
                        have kc1009 : 0 ≤ (r53.2.1 72 6).toInt ∧ (r53.2.1 72 6).toInt ≤ 14 := ki999.1 72 6
                        have kc1010 : 0 ≤ (r53.2.1 72 25).toInt ∧ (r53.2.1 72 25).toInt ≤ 14 := ki999.1 72 25
                        have kc1011 := zI.le ki999
                        have kc1012 : (r53.2.1 72 25).toInt = ((sm_w1 r49.2 82 ((m.1 72 25)).toNatClampNeg (0 : Int32)).1 72 25).toInt := congrArg Int32.toInt (kf1000 72 25 rfl)
                        have kc1013 : (r53.2.1 72 6).toInt = ((sm_w1 r49.2 82 ((m.1 72 25)).toNatClampNeg (0 : Int32)).1 72 6).toInt := congrArg Int32.toInt (kf1000 72 6 rfl)
                        have kc1014 := zI.pf76 ki999 (m.1 72 25)
                        have kc1015 : (r53.2.1 76 ((m.1 72 25)).toNatClampNeg).toInt = ((sm_w1 r49.2 82 ((m.1 72 25)).toNatClampNeg (0 : Int32)).1 76 ((m.1 72 25)).toNatClampNeg).toInt := congrArg Int32.toInt (kf1000 76 ((m.1 72 25)).toNatClampNeg rfl)
                        have kc1016 : (-1 : Int) ≤ ((sm_w1 r49.2 82 ((m.1 72 25)).toNatClampNeg (0 : Int32)).1 76 ((m.1 72 25)).toNatClampNeg).toInt ∧ ((sm_w1 r49.2 82 ((m.1 72 25)).toNatClampNeg (0 : Int32)).1 76 ((m.1 72 25)).toNatClampNeg).toInt ≤ 9 := ki986.1 76 ((m.1 72 25)).toNatClampNeg
                        have kc1017 := zI.pf76 ki986 (m.1 72 25)
                        have kc1018 : ((sm_w1 r49.2 82 ((m.1 72 25)).toNatClampNeg (0 : Int32)).1 76 ((m.1 72 25)).toNatClampNeg).toInt = (r49.2.1 76 ((m.1 72 25)).toNatClampNeg).toInt := congrArg Int32.toInt (r_cell (by decide))
                        have kc1019 : (-1 : Int) ≤ (r53.2.1 77 ((m.1 72 25)).toNatClampNeg).toInt ∧ (r53.2.1 77 ((m.1 72 25)).toNatClampNeg).toInt ≤ 9 := ki999.1 77 ((m.1 72 25)).toNatClampNeg
                        have kc1020 := zI.pf77 ki999 (m.1 72 25)
                        have kc1021 : (r53.2.1 77 ((m.1 72 25)).toNatClampNeg).toInt = ((sm_w1 r49.2 82 ((m.1 72 25)).toNatClampNeg (0 : Int32)).1 77 ((m.1 72 25)).toNatClampNeg).toInt := congrArg Int32.toInt (kf1000 77 ((m.1 72 25)).toNatClampNeg rfl)
                        have kc1022 : (-1 : Int) ≤ ((sm_w1 r49.2 82 ((m.1 72 25)).toNatClampNeg (0 : Int32)).1 77 ((m.1 72 25)).toNatClampNeg).toInt ∧ ((sm_w1 r49.2 82 ((m.1 72 25)).toNatClampNeg (0 : Int32)).1 77 ((m.1 72 25)).toNatClampNeg).toInt ≤ 9 := ki986.1 77 ((m.1 72 25)).toNatClampNeg
                        have kc1023 := zI.pf77 ki986 (m.1 72 25)
                        have kc1024 : ((sm_w1 r49.2 82 ((m.1 72 25)).toNatClampNeg (0 : Int32)).1 77 ((m.1 72 25)).toNatClampNeg).toInt = (r49.2.1 77 ((m.1 72 25)).toNatClampNeg).toInt := congrArg Int32.toInt (r_cell (by decide))
                        have kc1025 : (-1 : Int) ≤ (r53.2.1 78 ((m.1 72 25)).toNatClampNeg).toInt ∧ (r53.2.1 78 ((m.1 72 25)).toNatClampNeg).toInt ≤ 20 := ki999.1 78 ((m.1 72 25)).toNatClampNeg
                        have kc1026 := zI.pf78 ki999 (m.1 72 25)
                        have kc1027 : (r53.2.1 78 ((m.1 72 25)).toNatClampNeg).toInt = ((sm_w1 r49.2 82 ((m.1 72 25)).toNatClampNeg (0 : Int32)).1 78 ((m.1 72 25)).toNatClampNeg).toInt := congrArg Int32.toInt (kf1000 78 ((m.1 72 25)).toNatClampNeg rfl)
                        have kc1028 : (-1 : Int) ≤ ((sm_w1 r49.2 82 ((m.1 72 25)).toNatClampNeg (0 : Int32)).1 78 ((m.1 72 25)).toNatClampNeg).toInt ∧ ((sm_w1 r49.2 82 ((m.1 72 25)).toNatClampNeg (0 : Int32)).1 78 ((m.1 72 25)).toNatClampNeg).toInt ≤ 20 := ki986.1 78 ((m.1 72 25)).toNatClampNeg
                        have kc1029 := zI.pf78 ki986 (m.1 72 25)
                        have kc1030 : ((sm_w1 r49.2 82 ((m.1 72 25)).toNatClampNeg (0 : Int32)).1 78 ((m.1 72 25)).toNatClampNeg).toInt = (r49.2.1 78 ((m.1 72 25)).toNatClampNeg).toInt := congrArg Int32.toInt (r_cell (by decide))
                        have kc1031 : (-1 : Int) ≤ (r53.2.1 82 ((m.1 72 25)).toNatClampNeg).toInt ∧ (r53.2.1 82 ((m.1 72 25)).toNatClampNeg).toInt ≤ 9 := ki999.1 82 ((m.1 72 25)).toNatClampNeg
                        have kc1032 := zI.pf82 ki999 (m.1 72 25)
                        have kc1033 : (r53.2.1 82 ((m.1 72 25)).toNatClampNeg).toInt = ((sm_w1 r49.2 82 ((m.1 72 25)).toNatClampNeg (0 : Int32)).1 82 ((m.1 72 25)).toNatClampNeg).toInt := congrArg Int32.toInt (kf1000 82 ((m.1 72 25)).toNatClampNeg rfl)
                        refine s_eq (fun kh1034 => ?_) (fun kh1034 => ?_)
                        · refine s_ix kx41 ?_
                          have kc1035 : 0 ≤ (r49.2.1 72 26).toInt ∧ (r49.2.1 72 26).toInt ≤ 16383 := ki942.1 72 26
                          have kc1036 : (r49.2.1 72 26).toInt = ((sm_w1 r45.2 81 ((m.1 72 25)).toNatClampNeg r45.1).1 72 26).toInt := congrArg Int32.toInt (kf943 72 26 rfl)
                          have kc1037 : 0 ≤ ((sm_w1 r45.2 81 ((m.1 72 25)).toNatClampNeg r45.1).1 72 26).toInt ∧ ((sm_w1 r45.2 81 ((m.1 72 25)).toNatClampNeg r45.1).1 72 26).toInt ≤ 16383 := ki935.1 72 26
                          have kc1038 : ((sm_w1 r45.2 81 ((m.1 72 25)).toNatClampNeg r45.1).1 72 26).toInt = (r45.2.1 72 26).toInt := congrArg Int32.toInt (r_cell (by decide))
                          have kc1039 : 0 ≤ (r45.2.1 72 26).toInt ∧ (r45.2.1 72 26).toInt ≤ 16383 := ki913.1 72 26
                          have kc1040 : (r45.2.1 72 26).toInt = (r25.2.1 72 26).toInt := congrArg Int32.toInt (kf914 72 26 rfl)
                          have kc1041 : 0 ≤ (r25.2.1 72 26).toInt ∧ (r25.2.1 72 26).toInt ≤ 16383 := ki284.1 72 26
                          have kc1042 : (r25.2.1 72 26).toInt = ((sm_w1 r21.2 80 ((m.1 72 25)).toNatClampNeg r21.1).1 72 26).toInt := congrArg Int32.toInt (kf285 72 26 rfl)
                          have kc1043 : 0 ≤ ((sm_w1 r21.2 80 ((m.1 72 25)).toNatClampNeg r21.1).1 72 26).toInt ∧ ((sm_w1 r21.2 80 ((m.1 72 25)).toNatClampNeg r21.1).1 72 26).toInt ≤ 16383 := ki277.1 72 26
                          have kc1044 : ((sm_w1 r21.2 80 ((m.1 72 25)).toNatClampNeg r21.1).1 72 26).toInt = (r21.2.1 72 26).toInt := congrArg Int32.toInt (r_cell (by decide))
                          have kc1045 : 0 ≤ (r21.2.1 72 26).toInt ∧ (r21.2.1 72 26).toInt ≤ 16383 := ki234.1 72 26
                          have kc1046 : (r21.2.1 72 26).toInt = ((sm_w1 r17.2 79 ((m.1 72 25)).toNatClampNeg r17.1).1 72 26).toInt := congrArg Int32.toInt (kf235 72 26 rfl)
                          have kc1047 : 0 ≤ ((sm_w1 r17.2 79 ((m.1 72 25)).toNatClampNeg r17.1).1 72 26).toInt ∧ ((sm_w1 r17.2 79 ((m.1 72 25)).toNatClampNeg r17.1).1 72 26).toInt ≤ 16383 := ki228.1 72 26
                          have kc1048 : ((sm_w1 r17.2 79 ((m.1 72 25)).toNatClampNeg r17.1).1 72 26).toInt = (r17.2.1 72 26).toInt := congrArg Int32.toInt (r_cell (by decide))
                          have kc1049 : 0 ≤ (r17.2.1 72 26).toInt ∧ (r17.2.1 72 26).toInt ≤ 16383 := ki206.1 72 26
                          have kc1050 : (r17.2.1 72 26).toInt = (r15.2.1 72 26).toInt := congrArg Int32.toInt (kf207 72 26 rfl)
                          have kc1051 : 0 ≤ (r15.2.1 72 26).toInt ∧ (r15.2.1 72 26).toInt ≤ 16383 := ki156.1 72 26
                          have kc1052 : (r15.2.1 72 26).toInt = ((sm_w1 r11.2 78 ((m.1 72 25)).toNatClampNeg r11.1).1 72 26).toInt := congrArg Int32.toInt (kf157 72 26 rfl)
                          have kc1053 : 0 ≤ ((sm_w1 r11.2 78 ((m.1 72 25)).toNatClampNeg r11.1).1 72 26).toInt ∧ ((sm_w1 r11.2 78 ((m.1 72 25)).toNatClampNeg r11.1).1 72 26).toInt ≤ 16383 := ki135.1 72 26
                          have kc1054 : ((sm_w1 r11.2 78 ((m.1 72 25)).toNatClampNeg r11.1).1 72 26).toInt = (r11.2.1 72 26).toInt := congrArg Int32.toInt (r_cell (by decide))
                          have kc1055 : 0 ≤ (r11.2.1 72 26).toInt ∧ (r11.2.1 72 26).toInt ≤ 16383 := ki104.1 72 26
                          have kc1056 : (r11.2.1 72 26).toInt = ((sm_w1 r7.2 77 ((m.1 72 25)).toNatClampNeg r7.1).1 72 26).toInt := congrArg Int32.toInt (kf105 72 26 rfl)
                          have kc1057 : 0 ≤ ((sm_w1 r7.2 77 ((m.1 72 25)).toNatClampNeg r7.1).1 72 26).toInt ∧ ((sm_w1 r7.2 77 ((m.1 72 25)).toNatClampNeg r7.1).1 72 26).toInt ≤ 16383 := ki90.1 72 26
                          have kc1058 : ((sm_w1 r7.2 77 ((m.1 72 25)).toNatClampNeg r7.1).1 72 26).toInt = (r7.2.1 72 26).toInt := congrArg Int32.toInt (r_cell (by decide))
                          have kc1059 : 0 ≤ (r7.2.1 72 26).toInt ∧ (r7.2.1 72 26).toInt ≤ 16383 := ki55.1 72 26
                          have kc1060 : (r7.2.1 72 26).toInt = ((sm_w1 r2.2 76 ((m.1 72 25)).toNatClampNeg r2.1).1 72 26).toInt := congrArg Int32.toInt (kf56 72 26 rfl)
                          have kc1061 : 0 ≤ ((sm_w1 r2.2 76 ((m.1 72 25)).toNatClampNeg r2.1).1 72 26).toInt ∧ ((sm_w1 r2.2 76 ((m.1 72 25)).toNatClampNeg r2.1).1 72 26).toInt ≤ 16383 := ki43.1 72 26
                          have kc1062 : ((sm_w1 r2.2 76 ((m.1 72 25)).toNatClampNeg r2.1).1 72 26).toInt = (r2.2.1 72 26).toInt := congrArg Int32.toInt (r_cell (by decide))
                          have kc1063 : 0 ≤ (r2.2.1 72 26).toInt ∧ (r2.2.1 72 26).toInt ≤ 16383 := ki11.1 72 26
                          have kc1064 : (r2.2.1 72 26).toInt = (m.1 72 26).toInt := congrArg Int32.toInt (kf12 72 26 rfl)
                          have kc1065 : 0 ≤ (m.1 72 26).toInt ∧ (m.1 72 26).toInt ≤ 16383 := hI.1 72 26
                          have kc1066 : 0 ≤ ((r49.2.1 72 26) ||| (0 : Int32)).toInt ∧ ((r49.2.1 72 26) ||| (0 : Int32)).toInt < 16384 := a_or 14 (by decide) (by decide) (by omega) (by omega) (by omega) (by omega)
                          have ki1067 : zI (sm_w1 r53.2 72 26 ((r49.2.1 72 26) ||| (0 : Int32))) := zI.w ki999 rfl (show 0 ≤ (((r49.2.1 72 26) ||| (0 : Int32))).toInt ∧ (((r49.2.1 72 26) ||| (0 : Int32))).toInt ≤ 16383 by omega)
                          have ki1068 : zI (sm_w1 (sm_w1 r53.2 72 26 ((r49.2.1 72 26) ||| (0 : Int32))) 83 ((m.1 72 25)).toNatClampNeg (-1 : Int32)) := zI.w ki1067 rfl (rg _)
                          have kc1069 : ((r53.2.1 72 25) + (1 : Int32)).toInt = ((r53.2.1 72 25)).toInt + 1 := a_addl L1 (by omega) (by omega)
                          have kc1071 : 0 ≤ ((sm_w1 (sm_w1 r53.2 72 26 ((r49.2.1 72 26) ||| (0 : Int32))) 83 ((m.1 72 25)).toNatClampNeg (-1 : Int32)).1 72 6).toInt ∧ ((sm_w1 (sm_w1 r53.2 72 26 ((r49.2.1 72 26) ||| (0 : Int32))) 83 ((m.1 72 25)).toNatClampNeg (-1 : Int32)).1 72 6).toInt ≤ 14 := ki1068.1 72 6
                          have kc1072 : 0 ≤ ((sm_w1 (sm_w1 r53.2 72 26 ((r49.2.1 72 26) ||| (0 : Int32))) 83 ((m.1 72 25)).toNatClampNeg (-1 : Int32)).1 72 25).toInt ∧ ((sm_w1 (sm_w1 r53.2 72 26 ((r49.2.1 72 26) ||| (0 : Int32))) 83 ((m.1 72 25)).toNatClampNeg (-1 : Int32)).1 72 25).toInt ≤ 14 := ki1068.1 72 25
                          have kc1073 := zI.le ki1068
                          have kc1074 : ((sm_w1 (sm_w1 r53.2 72 26 ((r49.2.1 72 26) ||| (0 : Int32))) 83 ((m.1 72 25)).toNatClampNeg (-1 : Int32)).1 72 25).toInt = ((sm_w1 r53.2 72 26 ((r49.2.1 72 26) ||| (0 : Int32))).1 72 25).toInt := congrArg Int32.toInt (r_cell (by decide))
                          have kc1075 : 0 ≤ ((sm_w1 r53.2 72 26 ((r49.2.1 72 26) ||| (0 : Int32))).1 72 25).toInt ∧ ((sm_w1 r53.2 72 26 ((r49.2.1 72 26) ||| (0 : Int32))).1 72 25).toInt ≤ 14 := ki1067.1 72 25
                          have kc1076 : 0 ≤ ((sm_w1 r53.2 72 26 ((r49.2.1 72 26) ||| (0 : Int32))).1 72 6).toInt ∧ ((sm_w1 r53.2 72 26 ((r49.2.1 72 26) ||| (0 : Int32))).1 72 6).toInt ≤ 14 := ki1067.1 72 6
                          have kc1077 := zI.le ki1067
                          have kc1078 : ((sm_w1 r53.2 72 26 ((r49.2.1 72 26) ||| (0 : Int32))).1 72 6).toInt = (r53.2.1 72 6).toInt := rfl
                          have kc1079 : ((sm_w1 r53.2 72 26 ((r49.2.1 72 26) ||| (0 : Int32))).1 72 25).toInt = (r53.2.1 72 25).toInt := rfl
                          have kc1080 : ((sm_w1 (sm_w1 r53.2 72 26 ((r49.2.1 72 26) ||| (0 : Int32))) 83 ((m.1 72 25)).toNatClampNeg (-1 : Int32)).1 72 6).toInt = ((sm_w1 r53.2 72 26 ((r49.2.1 72 26) ||| (0 : Int32))).1 72 6).toInt := congrArg Int32.toInt (r_cell (by decide))
                          have kc1081 := a_tn (show 0 ≤ (m.1 72 25).toInt by omega)
                          have kc1082 : (-1 : Int) ≤ ((sm_w1 (sm_w1 r53.2 72 26 ((r49.2.1 72 26) ||| (0 : Int32))) 83 ((m.1 72 25)).toNatClampNeg (-1 : Int32)).1 76 ((m.1 72 25)).toNatClampNeg).toInt ∧ ((sm_w1 (sm_w1 r53.2 72 26 ((r49.2.1 72 26) ||| (0 : Int32))) 83 ((m.1 72 25)).toNatClampNeg (-1 : Int32)).1 76 ((m.1 72 25)).toNatClampNeg).toInt ≤ 9 := ki1068.1 76 ((m.1 72 25)).toNatClampNeg
                          have kc1083 := zI.pf76 ki1068 (m.1 72 25)
                          have kc1084 : ((sm_w1 (sm_w1 r53.2 72 26 ((r49.2.1 72 26) ||| (0 : Int32))) 83 ((m.1 72 25)).toNatClampNeg (-1 : Int32)).1 76 ((m.1 72 25)).toNatClampNeg).toInt = ((sm_w1 r53.2 72 26 ((r49.2.1 72 26) ||| (0 : Int32))).1 76 ((m.1 72 25)).toNatClampNeg).toInt := congrArg Int32.toInt (r_cell (by decide))
                          have kc1085 : (-1 : Int) ≤ ((sm_w1 r53.2 72 26 ((r49.2.1 72 26) ||| (0 : Int32))).1 76 ((m.1 72 25)).toNatClampNeg).toInt ∧ ((sm_w1 r53.2 72 26 ((r49.2.1 72 26) ||| (0 : Int32))).1 76 ((m.1 72 25)).toNatClampNeg).toInt ≤ 9 := ki1067.1 76 ((m.1 72 25)).toNatClampNeg
                          have kc1086 := zI.pf76 ki1067 (m.1 72 25)
                          have kc1087 : ((sm_w1 r53.2 72 26 ((r49.2.1 72 26) ||| (0 : Int32))).1 76 ((m.1 72 25)).toNatClampNeg).toInt = (r53.2.1 76 ((m.1 72 25)).toNatClampNeg).toInt := congrArg Int32.toInt (r_cell (by decide))
                          have kc1088 : (-1 : Int) ≤ ((sm_w1 (sm_w1 r53.2 72 26 ((r49.2.1 72 26) ||| (0 : Int32))) 83 ((m.1 72 25)).toNatClampNeg (-1 : Int32)).1 77 ((m.1 72 25)).toNatClampNeg).toInt ∧ ((sm_w1 (sm_w1 r53.2 72 26 ((r49.2.1 72 26) ||| (0 : Int32))) 83 ((m.1 72 25)).toNatClampNeg (-1 : Int32)).1 77 ((m.1 72 25)).toNatClampNeg).toInt ≤ 9 := ki1068.1 77 ((m.1 72 25)).toNatClampNeg
                          have kc1089 := zI.pf77 ki1068 (m.1 72 25)
                          have kc1090 : ((sm_w1 (sm_w1 r53.2 72 26 ((r49.2.1 72 26) ||| (0 : Int32))) 83 ((m.1 72 25)).toNatClampNeg (-1 : Int32)).1 77 ((m.1 72 25)).toNatClampNeg).toInt = ((sm_w1 r53.2 72 26 ((r49.2.1 72 26) ||| (0 : Int32))).1 77 ((m.1 72 25)).toNatClampNeg).toInt := congrArg Int32.toInt (r_cell (by decide))
                          have kc1091 : (-1 : Int) ≤ ((sm_w1 r53.2 72 26 ((r49.2.1 72 26) ||| (0 : Int32))).1 77 ((m.1 72 25)).toNatClampNeg).toInt ∧ ((sm_w1 r53.2 72 26 ((r49.2.1 72 26) ||| (0 : Int32))).1 77 ((m.1 72 25)).toNatClampNeg).toInt ≤ 9 := ki1067.1 77 ((m.1 72 25)).toNatClampNeg
                          have kc1092 := zI.pf77 ki1067 (m.1 72 25)
                          have kc1093 : ((sm_w1 r53.2 72 26 ((r49.2.1 72 26) ||| (0 : Int32))).1 77 ((m.1 72 25)).toNatClampNeg).toInt = (r53.2.1 77 ((m.1 72 25)).toNatClampNeg).toInt := congrArg Int32.toInt (r_cell (by decide))
                          have kc1094 : (-1 : Int) ≤ ((sm_w1 (sm_w1 r53.2 72 26 ((r49.2.1 72 26) ||| (0 : Int32))) 83 ((m.1 72 25)).toNatClampNeg (-1 : Int32)).1 78 ((m.1 72 25)).toNatClampNeg).toInt ∧ ((sm_w1 (sm_w1 r53.2 72 26 ((r49.2.1 72 26) ||| (0 : Int32))) 83 ((m.1 72 25)).toNatClampNeg (-1 : Int32)).1 78 ((m.1 72 25)).toNatClampNeg).toInt ≤ 20 := ki1068.1 78 ((m.1 72 25)).toNatClampNeg
                          have kc1095 := zI.pf78 ki1068 (m.1 72 25)
                          have kc1096 : ((sm_w1 (sm_w1 r53.2 72 26 ((r49.2.1 72 26) ||| (0 : Int32))) 83 ((m.1 72 25)).toNatClampNeg (-1 : Int32)).1 78 ((m.1 72 25)).toNatClampNeg).toInt = ((sm_w1 r53.2 72 26 ((r49.2.1 72 26) ||| (0 : Int32))).1 78 ((m.1 72 25)).toNatClampNeg).toInt := congrArg Int32.toInt (r_cell (by decide))
                          have kc1097 : (-1 : Int) ≤ ((sm_w1 r53.2 72 26 ((r49.2.1 72 26) ||| (0 : Int32))).1 78 ((m.1 72 25)).toNatClampNeg).toInt ∧ ((sm_w1 r53.2 72 26 ((r49.2.1 72 26) ||| (0 : Int32))).1 78 ((m.1 72 25)).toNatClampNeg).toInt ≤ 20 := ki1067.1 78 ((m.1 72 25)).toNatClampNeg
                          have kc1098 := zI.pf78 ki1067 (m.1 72 25)
                          have kc1099 : ((sm_w1 r53.2 72 26 ((r49.2.1 72 26) ||| (0 : Int32))).1 78 ((m.1 72 25)).toNatClampNeg).toInt = (r53.2.1 78 ((m.1 72 25)).toNatClampNeg).toInt := congrArg Int32.toInt (r_cell (by decide))
                          have kc1100 : (-1 : Int) ≤ ((sm_w1 (sm_w1 r53.2 72 26 ((r49.2.1 72 26) ||| (0 : Int32))) 83 ((m.1 72 25)).toNatClampNeg (-1 : Int32)).1 82 ((m.1 72 25)).toNatClampNeg).toInt ∧ ((sm_w1 (sm_w1 r53.2 72 26 ((r49.2.1 72 26) ||| (0 : Int32))) 83 ((m.1 72 25)).toNatClampNeg (-1 : Int32)).1 82 ((m.1 72 25)).toNatClampNeg).toInt ≤ 9 := ki1068.1 82 ((m.1 72 25)).toNatClampNeg
                          have kc1101 := zI.pf82 ki1068 (m.1 72 25)
                          have kc1102 : ((sm_w1 (sm_w1 r53.2 72 26 ((r49.2.1 72 26) ||| (0 : Int32))) 83 ((m.1 72 25)).toNatClampNeg (-1 : Int32)).1 82 ((m.1 72 25)).toNatClampNeg).toInt = ((sm_w1 r53.2 72 26 ((r49.2.1 72 26) ||| (0 : Int32))).1 82 ((m.1 72 25)).toNatClampNeg).toInt := congrArg Int32.toInt (r_cell (by decide))
                          have kc1103 : (-1 : Int) ≤ ((sm_w1 r53.2 72 26 ((r49.2.1 72 26) ||| (0 : Int32))).1 82 ((m.1 72 25)).toNatClampNeg).toInt ∧ ((sm_w1 r53.2 72 26 ((r49.2.1 72 26) ||| (0 : Int32))).1 82 ((m.1 72 25)).toNatClampNeg).toInt ≤ 9 := ki1067.1 82 ((m.1 72 25)).toNatClampNeg
                          have kc1104 := zI.pf82 ki1067 (m.1 72 25)
                          have kc1105 : ((sm_w1 r53.2 72 26 ((r49.2.1 72 26) ||| (0 : Int32))).1 82 ((m.1 72 25)).toNatClampNeg).toInt = (r53.2.1 82 ((m.1 72 25)).toNatClampNeg).toInt := congrArg Int32.toInt (r_cell (by decide))
                          have ki1070 : zI (sm_w1 (sm_w1 (sm_w1 r53.2 72 26 ((r49.2.1 72 26) ||| (0 : Int32))) 83 ((m.1 72 25)).toNatClampNeg (-1 : Int32)) 72 25 ((r53.2.1 72 25) + (1 : Int32))) := zI.w25b ((m.1 72 25)).toNatClampNeg ki1068 (show 0 ≤ (((r53.2.1 72 25) + (1 : Int32))).toInt ∧ (((r53.2.1 72 25) + (1 : Int32))).toInt ≤ 14 by omega) (show (((r53.2.1 72 25) + (1 : Int32))).toInt = ((sm_w1 (sm_w1 r53.2 72 26 ((r49.2.1 72 26) ||| (0 : Int32))) 83 ((m.1 72 25)).toNatClampNeg (-1 : Int32)).1 72 25).toInt + 1 by omega) (show ((((m.1 72 25)).toNatClampNeg : Nat) : Int) = ((sm_w1 (sm_w1 r53.2 72 26 ((r49.2.1 72 26) ||| (0 : Int32))) 83 ((m.1 72 25)).toNatClampNeg (-1 : Int32)).1 72 25).toInt by omega) (show 0 ≤ ((sm_w1 (sm_w1 r53.2 72 26 ((r49.2.1 72 26) ||| (0 : Int32))) 83 ((m.1 72 25)).toNatClampNeg (-1 : Int32)).1 76 ((m.1 72 25)).toNatClampNeg).toInt by omega) (show 0 ≤ ((sm_w1 (sm_w1 r53.2 72 26 ((r49.2.1 72 26) ||| (0 : Int32))) 83 ((m.1 72 25)).toNatClampNeg (-1 : Int32)).1 77 ((m.1 72 25)).toNatClampNeg).toInt by omega) (show 1 ≤ ((sm_w1 (sm_w1 r53.2 72 26 ((r49.2.1 72 26) ||| (0 : Int32))) 83 ((m.1 72 25)).toNatClampNeg (-1 : Int32)).1 78 ((m.1 72 25)).toNatClampNeg).toInt by omega) (show 0 ≤ ((sm_w1 (sm_w1 r53.2 72 26 ((r49.2.1 72 26) ||| (0 : Int32))) 83 ((m.1 72 25)).toNatClampNeg (-1 : Int32)).1 82 ((m.1 72 25)).toNatClampNeg).toInt by omega)
                          have kc1106 : 0 ≤ ((sm_w1 (sm_w1 (sm_w1 r53.2 72 26 ((r49.2.1 72 26) ||| (0 : Int32))) 83 ((m.1 72 25)).toNatClampNeg (-1 : Int32)) 72 25 ((r53.2.1 72 25) + (1 : Int32))).1 72 22).toInt ∧ ((sm_w1 (sm_w1 (sm_w1 r53.2 72 26 ((r49.2.1 72 26) ||| (0 : Int32))) 83 ((m.1 72 25)).toNatClampNeg (-1 : Int32)) 72 25 ((r53.2.1 72 25) + (1 : Int32))).1 72 22).toInt ≤ 80 := ki1070.1 72 22
                          have kc1107 : ((sm_w1 (sm_w1 (sm_w1 r53.2 72 26 ((r49.2.1 72 26) ||| (0 : Int32))) 83 ((m.1 72 25)).toNatClampNeg (-1 : Int32)) 72 25 ((r53.2.1 72 25) + (1 : Int32))).1 72 22).toInt = ((sm_w1 (sm_w1 r53.2 72 26 ((r49.2.1 72 26) ||| (0 : Int32))) 83 ((m.1 72 25)).toNatClampNeg (-1 : Int32)).1 72 22).toInt := rfl
                          have kc1108 : 0 ≤ ((sm_w1 (sm_w1 r53.2 72 26 ((r49.2.1 72 26) ||| (0 : Int32))) 83 ((m.1 72 25)).toNatClampNeg (-1 : Int32)).1 72 22).toInt ∧ ((sm_w1 (sm_w1 r53.2 72 26 ((r49.2.1 72 26) ||| (0 : Int32))) 83 ((m.1 72 25)).toNatClampNeg (-1 : Int32)).1 72 22).toInt ≤ 80 := ki1068.1 72 22
                          have kc1109 : ((sm_w1 (sm_w1 r53.2 72 26 ((r49.2.1 72 26) ||| (0 : Int32))) 83 ((m.1 72 25)).toNatClampNeg (-1 : Int32)).1 72 22).toInt = ((sm_w1 r53.2 72 26 ((r49.2.1 72 26) ||| (0 : Int32))).1 72 22).toInt := congrArg Int32.toInt (r_cell (by decide))
                          have kc1110 : 0 ≤ ((sm_w1 r53.2 72 26 ((r49.2.1 72 26) ||| (0 : Int32))).1 72 22).toInt ∧ ((sm_w1 r53.2 72 26 ((r49.2.1 72 26) ||| (0 : Int32))).1 72 22).toInt ≤ 80 := ki1067.1 72 22
                          have kc1111 : ((sm_w1 r53.2 72 26 ((r49.2.1 72 26) ||| (0 : Int32))).1 72 22).toInt = (r53.2.1 72 22).toInt := rfl
                          have kf1112 : Fr wX12_readsHedge m r2.2 := Fr.trans Fr.refl kf12 rfl
                          have kf1113 : Fr wX12_readsHedge m (sm_w1 r2.2 76 ((m.1 72 25)).toNatClampNeg r2.1) := Fr.w kf1112 rfl
                          have kf1114 : Fr wX12_readsHedge m r7.2 := Fr.trans kf1113 kf56 rfl
                          have kf1115 : Fr wX12_readsHedge m (sm_w1 r7.2 77 ((m.1 72 25)).toNatClampNeg r7.1) := Fr.w kf1114 rfl
                          have kf1116 : Fr wX12_readsHedge m r11.2 := Fr.trans kf1115 kf105 rfl
                          have kf1117 : Fr wX12_readsHedge m (sm_w1 r11.2 78 ((m.1 72 25)).toNatClampNeg r11.1) := Fr.w kf1116 rfl
                          have kf1118 : Fr wX12_readsHedge m r15.2 := Fr.trans kf1117 kf157 rfl
                          have kf1119 : Fr wX12_readsHedge m r17.2 := Fr.trans kf1118 kf207 rfl
                          have kf1120 : Fr wX12_readsHedge m (sm_w1 r17.2 79 ((m.1 72 25)).toNatClampNeg r17.1) := Fr.w kf1119 rfl
                          have kf1121 : Fr wX12_readsHedge m r21.2 := Fr.trans kf1120 kf235 rfl
                          have kf1122 : Fr wX12_readsHedge m (sm_w1 r21.2 80 ((m.1 72 25)).toNatClampNeg r21.1) := Fr.w kf1121 rfl
                          have kf1123 : Fr wX12_readsHedge m r25.2 := Fr.trans kf1122 kf285 rfl
                          have kf1124 : Fr wX12_readsHedge m r45.2 := Fr.trans kf1123 kf914 rfl
                          have kf1125 : Fr wX12_readsHedge m (sm_w1 r45.2 81 ((m.1 72 25)).toNatClampNeg r45.1) := Fr.w kf1124 rfl
                          have kf1126 : Fr wX12_readsHedge m r49.2 := Fr.trans kf1125 kf943 rfl
                          have kf1127 : Fr wX12_readsHedge m (sm_w1 r49.2 82 ((m.1 72 25)).toNatClampNeg (0 : Int32)) := Fr.w kf1126 rfl
                          have kf1128 : Fr wX12_readsHedge m r53.2 := Fr.trans kf1127 kf1000 rfl
                          have kf1129 : Fr wX12_readsHedge m (sm_w1 r53.2 72 26 ((r49.2.1 72 26) ||| (0 : Int32))) := Fr.w kf1128 rfl
                          have kf1130 : Fr wX12_readsHedge m (sm_w1 (sm_w1 r53.2 72 26 ((r49.2.1 72 26) ||| (0 : Int32))) 83 ((m.1 72 25)).toNatClampNeg (-1 : Int32)) := Fr.w kf1129 rfl
                          have kf1131 : Fr wX12_readsHedge m (sm_w1 (sm_w1 (sm_w1 r53.2 72 26 ((r49.2.1 72 26) ||| (0 : Int32))) 83 ((m.1 72 25)).toNatClampNeg (-1 : Int32)) 72 25 ((r53.2.1 72 25) + (1 : Int32))) := Fr.w kf1130 rfl
                          exact s_ret ⟨(show (0 ≤ (1 : Int32).toInt) ∧ ((1 : Int32).toInt ≤ 1) ∧ ((m.1 72 22).toInt ≤ ((sm_w1 (sm_w1 (sm_w1 r53.2 72 26 ((r49.2.1 72 26) ||| (0 : Int32))) 83 ((m.1 72 25)).toNatClampNeg (-1 : Int32)) 72 25 ((r53.2.1 72 25) + (1 : Int32))).1 72 22).toInt) by omega), ki1070, kf1131⟩
                        · refine s_ix kx41 ?_
                          have kc1132 : 0 ≤ (r49.2.1 72 26).toInt ∧ (r49.2.1 72 26).toInt ≤ 16383 := ki942.1 72 26
                          have kc1133 : (r49.2.1 72 26).toInt = ((sm_w1 r45.2 81 ((m.1 72 25)).toNatClampNeg r45.1).1 72 26).toInt := congrArg Int32.toInt (kf943 72 26 rfl)
                          have kc1134 : 0 ≤ ((sm_w1 r45.2 81 ((m.1 72 25)).toNatClampNeg r45.1).1 72 26).toInt ∧ ((sm_w1 r45.2 81 ((m.1 72 25)).toNatClampNeg r45.1).1 72 26).toInt ≤ 16383 := ki935.1 72 26
                          have kc1135 : ((sm_w1 r45.2 81 ((m.1 72 25)).toNatClampNeg r45.1).1 72 26).toInt = (r45.2.1 72 26).toInt := congrArg Int32.toInt (r_cell (by decide))
                          have kc1136 : 0 ≤ (r45.2.1 72 26).toInt ∧ (r45.2.1 72 26).toInt ≤ 16383 := ki913.1 72 26
                          have kc1137 : (r45.2.1 72 26).toInt = (r25.2.1 72 26).toInt := congrArg Int32.toInt (kf914 72 26 rfl)
                          have kc1138 : 0 ≤ (r25.2.1 72 26).toInt ∧ (r25.2.1 72 26).toInt ≤ 16383 := ki284.1 72 26
                          have kc1139 : (r25.2.1 72 26).toInt = ((sm_w1 r21.2 80 ((m.1 72 25)).toNatClampNeg r21.1).1 72 26).toInt := congrArg Int32.toInt (kf285 72 26 rfl)
                          have kc1140 : 0 ≤ ((sm_w1 r21.2 80 ((m.1 72 25)).toNatClampNeg r21.1).1 72 26).toInt ∧ ((sm_w1 r21.2 80 ((m.1 72 25)).toNatClampNeg r21.1).1 72 26).toInt ≤ 16383 := ki277.1 72 26
                          have kc1141 : ((sm_w1 r21.2 80 ((m.1 72 25)).toNatClampNeg r21.1).1 72 26).toInt = (r21.2.1 72 26).toInt := congrArg Int32.toInt (r_cell (by decide))
                          have kc1142 : 0 ≤ (r21.2.1 72 26).toInt ∧ (r21.2.1 72 26).toInt ≤ 16383 := ki234.1 72 26
                          have kc1143 : (r21.2.1 72 26).toInt = ((sm_w1 r17.2 79 ((m.1 72 25)).toNatClampNeg r17.1).1 72 26).toInt := congrArg Int32.toInt (kf235 72 26 rfl)
                          have kc1144 : 0 ≤ ((sm_w1 r17.2 79 ((m.1 72 25)).toNatClampNeg r17.1).1 72 26).toInt ∧ ((sm_w1 r17.2 79 ((m.1 72 25)).toNatClampNeg r17.1).1 72 26).toInt ≤ 16383 := ki228.1 72 26
                          have kc1145 : ((sm_w1 r17.2 79 ((m.1 72 25)).toNatClampNeg r17.1).1 72 26).toInt = (r17.2.1 72 26).toInt := congrArg Int32.toInt (r_cell (by decide))
                          have kc1146 : 0 ≤ (r17.2.1 72 26).toInt ∧ (r17.2.1 72 26).toInt ≤ 16383 := ki206.1 72 26
                          have kc1147 : (r17.2.1 72 26).toInt = (r15.2.1 72 26).toInt := congrArg Int32.toInt (kf207 72 26 rfl)
                          have kc1148 : 0 ≤ (r15.2.1 72 26).toInt ∧ (r15.2.1 72 26).toInt ≤ 16383 := ki156.1 72 26
                          have kc1149 : (r15.2.1 72 26).toInt = ((sm_w1 r11.2 78 ((m.1 72 25)).toNatClampNeg r11.1).1 72 26).toInt := congrArg Int32.toInt (kf157 72 26 rfl)
                          have kc1150 : 0 ≤ ((sm_w1 r11.2 78 ((m.1 72 25)).toNatClampNeg r11.1).1 72 26).toInt ∧ ((sm_w1 r11.2 78 ((m.1 72 25)).toNatClampNeg r11.1).1 72 26).toInt ≤ 16383 := ki135.1 72 26
                          have kc1151 : ((sm_w1 r11.2 78 ((m.1 72 25)).toNatClampNeg r11.1).1 72 26).toInt = (r11.2.1 72 26).toInt := congrArg Int32.toInt (r_cell (by decide))
                          have kc1152 : 0 ≤ (r11.2.1 72 26).toInt ∧ (r11.2.1 72 26).toInt ≤ 16383 := ki104.1 72 26
                          have kc1153 : (r11.2.1 72 26).toInt = ((sm_w1 r7.2 77 ((m.1 72 25)).toNatClampNeg r7.1).1 72 26).toInt := congrArg Int32.toInt (kf105 72 26 rfl)
                          have kc1154 : 0 ≤ ((sm_w1 r7.2 77 ((m.1 72 25)).toNatClampNeg r7.1).1 72 26).toInt ∧ ((sm_w1 r7.2 77 ((m.1 72 25)).toNatClampNeg r7.1).1 72 26).toInt ≤ 16383 := ki90.1 72 26
                          have kc1155 : ((sm_w1 r7.2 77 ((m.1 72 25)).toNatClampNeg r7.1).1 72 26).toInt = (r7.2.1 72 26).toInt := congrArg Int32.toInt (r_cell (by decide))
                          have kc1156 : 0 ≤ (r7.2.1 72 26).toInt ∧ (r7.2.1 72 26).toInt ≤ 16383 := ki55.1 72 26
                          have kc1157 : (r7.2.1 72 26).toInt = ((sm_w1 r2.2 76 ((m.1 72 25)).toNatClampNeg r2.1).1 72 26).toInt := congrArg Int32.toInt (kf56 72 26 rfl)
                          have kc1158 : 0 ≤ ((sm_w1 r2.2 76 ((m.1 72 25)).toNatClampNeg r2.1).1 72 26).toInt ∧ ((sm_w1 r2.2 76 ((m.1 72 25)).toNatClampNeg r2.1).1 72 26).toInt ≤ 16383 := ki43.1 72 26
                          have kc1159 : ((sm_w1 r2.2 76 ((m.1 72 25)).toNatClampNeg r2.1).1 72 26).toInt = (r2.2.1 72 26).toInt := congrArg Int32.toInt (r_cell (by decide))
                          have kc1160 : 0 ≤ (r2.2.1 72 26).toInt ∧ (r2.2.1 72 26).toInt ≤ 16383 := ki11.1 72 26
                          have kc1161 : (r2.2.1 72 26).toInt = (m.1 72 26).toInt := congrArg Int32.toInt (kf12 72 26 rfl)
                          have kc1162 : 0 ≤ (m.1 72 26).toInt ∧ (m.1 72 26).toInt ≤ 16383 := hI.1 72 26
                          have kc1163 := L31
                          have kc1164 : 0 ≤ ((m.1 72 25) &&& (31 : Int32)).toInt ∧ ((m.1 72 25) &&& (31 : Int32)).toInt ≤ ((31 : Int32)).toInt := a_andr (by omega)
                          have kc1165 : 0 ≤ ((m.1 72 25) &&& (31 : Int32)).toInt ∧ ((m.1 72 25) &&& (31 : Int32)).toInt ≤ ((m.1 72 25)).toInt := a_andl (by omega)
                          have kc1166 : 1 ≤ ((1 : Int32) <<< ((m.1 72 25) &&& (31 : Int32))).toInt ∧ ((1 : Int32) <<< ((m.1 72 25) &&& (31 : Int32))).toInt ≤ 8192 := a_shl 13 (by decide) (by decide) (by omega) (by omega)
                          have kc1167 : 0 ≤ ((r49.2.1 72 26) ||| ((1 : Int32) <<< ((m.1 72 25) &&& (31 : Int32)))).toInt ∧ ((r49.2.1 72 26) ||| ((1 : Int32) <<< ((m.1 72 25) &&& (31 : Int32)))).toInt < 16384 := a_or 14 (by decide) (by decide) (by omega) (by omega) (by omega) (by omega)
                          have ki1168 : zI (sm_w1 r53.2 72 26 ((r49.2.1 72 26) ||| ((1 : Int32) <<< ((m.1 72 25) &&& (31 : Int32))))) := zI.w ki999 rfl (show 0 ≤ (((r49.2.1 72 26) ||| ((1 : Int32) <<< ((m.1 72 25) &&& (31 : Int32))))).toInt ∧ (((r49.2.1 72 26) ||| ((1 : Int32) <<< ((m.1 72 25) &&& (31 : Int32))))).toInt ≤ 16383 by omega)
                          have ki1169 : zI (sm_w1 (sm_w1 r53.2 72 26 ((r49.2.1 72 26) ||| ((1 : Int32) <<< ((m.1 72 25) &&& (31 : Int32))))) 83 ((m.1 72 25)).toNatClampNeg (-1 : Int32)) := zI.w ki1168 rfl (rg _)
                          have kc1170 : ((r53.2.1 72 25) + (1 : Int32)).toInt = ((r53.2.1 72 25)).toInt + 1 := a_addl L1 (by omega) (by omega)
                          have kc1172 : 0 ≤ ((sm_w1 (sm_w1 r53.2 72 26 ((r49.2.1 72 26) ||| ((1 : Int32) <<< ((m.1 72 25) &&& (31 : Int32))))) 83 ((m.1 72 25)).toNatClampNeg (-1 : Int32)).1 72 6).toInt ∧ ((sm_w1 (sm_w1 r53.2 72 26 ((r49.2.1 72 26) ||| ((1 : Int32) <<< ((m.1 72 25) &&& (31 : Int32))))) 83 ((m.1 72 25)).toNatClampNeg (-1 : Int32)).1 72 6).toInt ≤ 14 := ki1169.1 72 6
                          have kc1173 : 0 ≤ ((sm_w1 (sm_w1 r53.2 72 26 ((r49.2.1 72 26) ||| ((1 : Int32) <<< ((m.1 72 25) &&& (31 : Int32))))) 83 ((m.1 72 25)).toNatClampNeg (-1 : Int32)).1 72 25).toInt ∧ ((sm_w1 (sm_w1 r53.2 72 26 ((r49.2.1 72 26) ||| ((1 : Int32) <<< ((m.1 72 25) &&& (31 : Int32))))) 83 ((m.1 72 25)).toNatClampNeg (-1 : Int32)).1 72 25).toInt ≤ 14 := ki1169.1 72 25
                          have kc1174 := zI.le ki1169
                          have kc1175 : ((sm_w1 (sm_w1 r53.2 72 26 ((r49.2.1 72 26) ||| ((1 : Int32) <<< ((m.1 72 25) &&& (31 : Int32))))) 83 ((m.1 72 25)).toNatClampNeg (-1 : Int32)).1 72 25).toInt = ((sm_w1 r53.2 72 26 ((r49.2.1 72 26) ||| ((1 : Int32) <<< ((m.1 72 25) &&& (31 : Int32))))).1 72 25).toInt := congrArg Int32.toInt (r_cell (by decide))
                          have kc1176 : 0 ≤ ((sm_w1 r53.2 72 26 ((r49.2.1 72 26) ||| ((1 : Int32) <<< ((m.1 72 25) &&& (31 : Int32))))).1 72 25).toInt ∧ ((sm_w1 r53.2 72 26 ((r49.2.1 72 26) ||| ((1 : Int32) <<< ((m.1 72 25) &&& (31 : Int32))))).1 72 25).toInt ≤ 14 := ki1168.1 72 25
                          have kc1177 : 0 ≤ ((sm_w1 r53.2 72 26 ((r49.2.1 72 26) ||| ((1 : Int32) <<< ((m.1 72 25) &&& (31 : Int32))))).1 72 6).toInt ∧ ((sm_w1 r53.2 72 26 ((r49.2.1 72 26) ||| ((1 : Int32) <<< ((m.1 72 25) &&& (31 : Int32))))).1 72 6).toInt ≤ 14 := ki1168.1 72 6
                          have kc1178 := zI.le ki1168
                          have kc1179 : ((sm_w1 r53.2 72 26 ((r49.2.1 72 26) ||| ((1 : Int32) <<< ((m.1 72 25) &&& (31 : Int32))))).1 72 6).toInt = (r53.2.1 72 6).toInt := rfl
                          have kc1180 : ((sm_w1 r53.2 72 26 ((r49.2.1 72 26) ||| ((1 : Int32) <<< ((m.1 72 25) &&& (31 : Int32))))).1 72 25).toInt = (r53.2.1 72 25).toInt := rfl
                          have kc1181 : ((sm_w1 (sm_w1 r53.2 72 26 ((r49.2.1 72 26) ||| ((1 : Int32) <<< ((m.1 72 25) &&& (31 : Int32))))) 83 ((m.1 72 25)).toNatClampNeg (-1 : Int32)).1 72 6).toInt = ((sm_w1 r53.2 72 26 ((r49.2.1 72 26) ||| ((1 : Int32) <<< ((m.1 72 25) &&& (31 : Int32))))).1 72 6).toInt := congrArg Int32.toInt (r_cell (by decide))
                          have kc1182 := a_tn (show 0 ≤ (m.1 72 25).toInt by omega)
                          have kc1183 : (-1 : Int) ≤ ((sm_w1 (sm_w1 r53.2 72 26 ((r49.2.1 72 26) ||| ((1 : Int32) <<< ((m.1 72 25) &&& (31 : Int32))))) 83 ((m.1 72 25)).toNatClampNeg (-1 : Int32)).1 76 ((m.1 72 25)).toNatClampNeg).toInt ∧ ((sm_w1 (sm_w1 r53.2 72 26 ((r49.2.1 72 26) ||| ((1 : Int32) <<< ((m.1 72 25) &&& (31 : Int32))))) 83 ((m.1 72 25)).toNatClampNeg (-1 : Int32)).1 76 ((m.1 72 25)).toNatClampNeg).toInt ≤ 9 := ki1169.1 76 ((m.1 72 25)).toNatClampNeg
                          have kc1184 := zI.pf76 ki1169 (m.1 72 25)
                          have kc1185 : ((sm_w1 (sm_w1 r53.2 72 26 ((r49.2.1 72 26) ||| ((1 : Int32) <<< ((m.1 72 25) &&& (31 : Int32))))) 83 ((m.1 72 25)).toNatClampNeg (-1 : Int32)).1 76 ((m.1 72 25)).toNatClampNeg).toInt = ((sm_w1 r53.2 72 26 ((r49.2.1 72 26) ||| ((1 : Int32) <<< ((m.1 72 25) &&& (31 : Int32))))).1 76 ((m.1 72 25)).toNatClampNeg).toInt := congrArg Int32.toInt (r_cell (by decide))
                          have kc1186 : (-1 : Int) ≤ ((sm_w1 r53.2 72 26 ((r49.2.1 72 26) ||| ((1 : Int32) <<< ((m.1 72 25) &&& (31 : Int32))))).1 76 ((m.1 72 25)).toNatClampNeg).toInt ∧ ((sm_w1 r53.2 72 26 ((r49.2.1 72 26) ||| ((1 : Int32) <<< ((m.1 72 25) &&& (31 : Int32))))).1 76 ((m.1 72 25)).toNatClampNeg).toInt ≤ 9 := ki1168.1 76 ((m.1 72 25)).toNatClampNeg
                          have kc1187 := zI.pf76 ki1168 (m.1 72 25)
                          have kc1188 : ((sm_w1 r53.2 72 26 ((r49.2.1 72 26) ||| ((1 : Int32) <<< ((m.1 72 25) &&& (31 : Int32))))).1 76 ((m.1 72 25)).toNatClampNeg).toInt = (r53.2.1 76 ((m.1 72 25)).toNatClampNeg).toInt := congrArg Int32.toInt (r_cell (by decide))
                          have kc1189 : (-1 : Int) ≤ ((sm_w1 (sm_w1 r53.2 72 26 ((r49.2.1 72 26) ||| ((1 : Int32) <<< ((m.1 72 25) &&& (31 : Int32))))) 83 ((m.1 72 25)).toNatClampNeg (-1 : Int32)).1 77 ((m.1 72 25)).toNatClampNeg).toInt ∧ ((sm_w1 (sm_w1 r53.2 72 26 ((r49.2.1 72 26) ||| ((1 : Int32) <<< ((m.1 72 25) &&& (31 : Int32))))) 83 ((m.1 72 25)).toNatClampNeg (-1 : Int32)).1 77 ((m.1 72 25)).toNatClampNeg).toInt ≤ 9 := ki1169.1 77 ((m.1 72 25)).toNatClampNeg
                          have kc1190 := zI.pf77 ki1169 (m.1 72 25)
                          have kc1191 : ((sm_w1 (sm_w1 r53.2 72 26 ((r49.2.1 72 26) ||| ((1 : Int32) <<< ((m.1 72 25) &&& (31 : Int32))))) 83 ((m.1 72 25)).toNatClampNeg (-1 : Int32)).1 77 ((m.1 72 25)).toNatClampNeg).toInt = ((sm_w1 r53.2 72 26 ((r49.2.1 72 26) ||| ((1 : Int32) <<< ((m.1 72 25) &&& (31 : Int32))))).1 77 ((m.1 72 25)).toNatClampNeg).toInt := congrArg Int32.toInt (r_cell (by decide))
                          have kc1192 : (-1 : Int) ≤ ((sm_w1 r53.2 72 26 ((r49.2.1 72 26) ||| ((1 : Int32) <<< ((m.1 72 25) &&& (31 : Int32))))).1 77 ((m.1 72 25)).toNatClampNeg).toInt ∧ ((sm_w1 r53.2 72 26 ((r49.2.1 72 26) ||| ((1 : Int32) <<< ((m.1 72 25) &&& (31 : Int32))))).1 77 ((m.1 72 25)).toNatClampNeg).toInt ≤ 9 := ki1168.1 77 ((m.1 72 25)).toNatClampNeg
                          have kc1193 := zI.pf77 ki1168 (m.1 72 25)
                          have kc1194 : ((sm_w1 r53.2 72 26 ((r49.2.1 72 26) ||| ((1 : Int32) <<< ((m.1 72 25) &&& (31 : Int32))))).1 77 ((m.1 72 25)).toNatClampNeg).toInt = (r53.2.1 77 ((m.1 72 25)).toNatClampNeg).toInt := congrArg Int32.toInt (r_cell (by decide))
                          have kc1195 : (-1 : Int) ≤ ((sm_w1 (sm_w1 r53.2 72 26 ((r49.2.1 72 26) ||| ((1 : Int32) <<< ((m.1 72 25) &&& (31 : Int32))))) 83 ((m.1 72 25)).toNatClampNeg (-1 : Int32)).1 78 ((m.1 72 25)).toNatClampNeg).toInt ∧ ((sm_w1 (sm_w1 r53.2 72 26 ((r49.2.1 72 26) ||| ((1 : Int32) <<< ((m.1 72 25) &&& (31 : Int32))))) 83 ((m.1 72 25)).toNatClampNeg (-1 : Int32)).1 78 ((m.1 72 25)).toNatClampNeg).toInt ≤ 20 := ki1169.1 78 ((m.1 72 25)).toNatClampNeg
                          have kc1196 := zI.pf78 ki1169 (m.1 72 25)
                          have kc1197 : ((sm_w1 (sm_w1 r53.2 72 26 ((r49.2.1 72 26) ||| ((1 : Int32) <<< ((m.1 72 25) &&& (31 : Int32))))) 83 ((m.1 72 25)).toNatClampNeg (-1 : Int32)).1 78 ((m.1 72 25)).toNatClampNeg).toInt = ((sm_w1 r53.2 72 26 ((r49.2.1 72 26) ||| ((1 : Int32) <<< ((m.1 72 25) &&& (31 : Int32))))).1 78 ((m.1 72 25)).toNatClampNeg).toInt := congrArg Int32.toInt (r_cell (by decide))
                          have kc1198 : (-1 : Int) ≤ ((sm_w1 r53.2 72 26 ((r49.2.1 72 26) ||| ((1 : Int32) <<< ((m.1 72 25) &&& (31 : Int32))))).1 78 ((m.1 72 25)).toNatClampNeg).toInt ∧ ((sm_w1 r53.2 72 26 ((r49.2.1 72 26) ||| ((1 : Int32) <<< ((m.1 72 25) &&& (31 : Int32))))).1 78 ((m.1 72 25)).toNatClampNeg).toInt ≤ 20 := ki1168.1 78 ((m.1 72 25)).toNatClampNeg
                          have kc1199 := zI.pf78 ki1168 (m.1 72 25)
                          have kc1200 : ((sm_w1 r53.2 72 26 ((r49.2.1 72 26) ||| ((1 : Int32) <<< ((m.1 72 25) &&& (31 : Int32))))).1 78 ((m.1 72 25)).toNatClampNeg).toInt = (r53.2.1 78 ((m.1 72 25)).toNatClampNeg).toInt := congrArg Int32.toInt (r_cell (by decide))
                          have kc1201 : (-1 : Int) ≤ ((sm_w1 (sm_w1 r53.2 72 26 ((r49.2.1 72 26) ||| ((1 : Int32) <<< ((m.1 72 25) &&& (31 : Int32))))) 83 ((m.1 72 25)).toNatClampNeg (-1 : Int32)).1 82 ((m.1 72 25)).toNatClampNeg).toInt ∧ ((sm_w1 (sm_w1 r53.2 72 26 ((r49.2.1 72 26) ||| ((1 : Int32) <<< ((m.1 72 25) &&& (31 : Int32))))) 83 ((m.1 72 25)).toNatClampNeg (-1 : Int32)).1 82 ((m.1 72 25)).toNatClampNeg).toInt ≤ 9 := ki1169.1 82 ((m.1 72 25)).toNatClampNeg
                          have kc1202 := zI.pf82 ki1169 (m.1 72 25)
                          have kc1203 : ((sm_w1 (sm_w1 r53.2 72 26 ((r49.2.1 72 26) ||| ((1 : Int32) <<< ((m.1 72 25) &&& (31 : Int32))))) 83 ((m.1 72 25)).toNatClampNeg (-1 : Int32)).1 82 ((m.1 72 25)).toNatClampNeg).toInt = ((sm_w1 r53.2 72 26 ((r49.2.1 72 26) ||| ((1 : Int32) <<< ((m.1 72 25) &&& (31 : Int32))))).1 82 ((m.1 72 25)).toNatClampNeg).toInt := congrArg Int32.toInt (r_cell (by decide))
                          have kc1204 : (-1 : Int) ≤ ((sm_w1 r53.2 72 26 ((r49.2.1 72 26) ||| ((1 : Int32) <<< ((m.1 72 25) &&& (31 : Int32))))).1 82 ((m.1 72 25)).toNatClampNeg).toInt ∧ ((sm_w1 r53.2 72 26 ((r49.2.1 72 26) ||| ((1 : Int32) <<< ((m.1 72 25) &&& (31 : Int32))))).1 82 ((m.1 72 25)).toNatClampNeg).toInt ≤ 9 := ki1168.1 82 ((m.1 72 25)).toNatClampNeg
                          have kc1205 := zI.pf82 ki1168 (m.1 72 25)
                          have kc1206 : ((sm_w1 r53.2 72 26 ((r49.2.1 72 26) ||| ((1 : Int32) <<< ((m.1 72 25) &&& (31 : Int32))))).1 82 ((m.1 72 25)).toNatClampNeg).toInt = (r53.2.1 82 ((m.1 72 25)).toNatClampNeg).toInt := congrArg Int32.toInt (r_cell (by decide))
                          have ki1171 : zI (sm_w1 (sm_w1 (sm_w1 r53.2 72 26 ((r49.2.1 72 26) ||| ((1 : Int32) <<< ((m.1 72 25) &&& (31 : Int32))))) 83 ((m.1 72 25)).toNatClampNeg (-1 : Int32)) 72 25 ((r53.2.1 72 25) + (1 : Int32))) := zI.w25b ((m.1 72 25)).toNatClampNeg ki1169 (show 0 ≤ (((r53.2.1 72 25) + (1 : Int32))).toInt ∧ (((r53.2.1 72 25) + (1 : Int32))).toInt ≤ 14 by omega) (show (((r53.2.1 72 25) + (1 : Int32))).toInt = ((sm_w1 (sm_w1 r53.2 72 26 ((r49.2.1 72 26) ||| ((1 : Int32) <<< ((m.1 72 25) &&& (31 : Int32))))) 83 ((m.1 72 25)).toNatClampNeg (-1 : Int32)).1 72 25).toInt + 1 by omega) (show ((((m.1 72 25)).toNatClampNeg : Nat) : Int) = ((sm_w1 (sm_w1 r53.2 72 26 ((r49.2.1 72 26) ||| ((1 : Int32) <<< ((m.1 72 25) &&& (31 : Int32))))) 83 ((m.1 72 25)).toNatClampNeg (-1 : Int32)).1 72 25).toInt by omega) (show 0 ≤ ((sm_w1 (sm_w1 r53.2 72 26 ((r49.2.1 72 26) ||| ((1 : Int32) <<< ((m.1 72 25) &&& (31 : Int32))))) 83 ((m.1 72 25)).toNatClampNeg (-1 : Int32)).1 76 ((m.1 72 25)).toNatClampNeg).toInt by omega) (show 0 ≤ ((sm_w1 (sm_w1 r53.2 72 26 ((r49.2.1 72 26) ||| ((1 : Int32) <<< ((m.1 72 25) &&& (31 : Int32))))) 83 ((m.1 72 25)).toNatClampNeg (-1 : Int32)).1 77 ((m.1 72 25)).toNatClampNeg).toInt by omega) (show 1 ≤ ((sm_w1 (sm_w1 r53.2 72 26 ((r49.2.1 72 26) ||| ((1 : Int32) <<< ((m.1 72 25) &&& (31 : Int32))))) 83 ((m.1 72 25)).toNatClampNeg (-1 : Int32)).1 78 ((m.1 72 25)).toNatClampNeg).toInt by omega) (show 0 ≤ ((sm_w1 (sm_w1 r53.2 72 26 ((r49.2.1 72 26) ||| ((1 : Int32) <<< ((m.1 72 25) &&& (31 : Int32))))) 83 ((m.1 72 25)).toNatClampNeg (-1 : Int32)).1 82 ((m.1 72 25)).toNatClampNeg).toInt by omega)
                          have kc1207 : 0 ≤ ((sm_w1 (sm_w1 (sm_w1 r53.2 72 26 ((r49.2.1 72 26) ||| ((1 : Int32) <<< ((m.1 72 25) &&& (31 : Int32))))) 83 ((m.1 72 25)).toNatClampNeg (-1 : Int32)) 72 25 ((r53.2.1 72 25) + (1 : Int32))).1 72 22).toInt ∧ ((sm_w1 (sm_w1 (sm_w1 r53.2 72 26 ((r49.2.1 72 26) ||| ((1 : Int32) <<< ((m.1 72 25) &&& (31 : Int32))))) 83 ((m.1 72 25)).toNatClampNeg (-1 : Int32)) 72 25 ((r53.2.1 72 25) + (1 : Int32))).1 72 22).toInt ≤ 80 := ki1171.1 72 22
                          have kc1208 : ((sm_w1 (sm_w1 (sm_w1 r53.2 72 26 ((r49.2.1 72 26) ||| ((1 : Int32) <<< ((m.1 72 25) &&& (31 : Int32))))) 83 ((m.1 72 25)).toNatClampNeg (-1 : Int32)) 72 25 ((r53.2.1 72 25) + (1 : Int32))).1 72 22).toInt = ((sm_w1 (sm_w1 r53.2 72 26 ((r49.2.1 72 26) ||| ((1 : Int32) <<< ((m.1 72 25) &&& (31 : Int32))))) 83 ((m.1 72 25)).toNatClampNeg (-1 : Int32)).1 72 22).toInt := rfl
                          have kc1209 : 0 ≤ ((sm_w1 (sm_w1 r53.2 72 26 ((r49.2.1 72 26) ||| ((1 : Int32) <<< ((m.1 72 25) &&& (31 : Int32))))) 83 ((m.1 72 25)).toNatClampNeg (-1 : Int32)).1 72 22).toInt ∧ ((sm_w1 (sm_w1 r53.2 72 26 ((r49.2.1 72 26) ||| ((1 : Int32) <<< ((m.1 72 25) &&& (31 : Int32))))) 83 ((m.1 72 25)).toNatClampNeg (-1 : Int32)).1 72 22).toInt ≤ 80 := ki1169.1 72 22
                          have kc1210 : ((sm_w1 (sm_w1 r53.2 72 26 ((r49.2.1 72 26) ||| ((1 : Int32) <<< ((m.1 72 25) &&& (31 : Int32))))) 83 ((m.1 72 25)).toNatClampNeg (-1 : Int32)).1 72 22).toInt = ((sm_w1 r53.2 72 26 ((r49.2.1 72 26) ||| ((1 : Int32) <<< ((m.1 72 25) &&& (31 : Int32))))).1 72 22).toInt := congrArg Int32.toInt (r_cell (by decide))
                          have kc1211 : 0 ≤ ((sm_w1 r53.2 72 26 ((r49.2.1 72 26) ||| ((1 : Int32) <<< ((m.1 72 25) &&& (31 : Int32))))).1 72 22).toInt ∧ ((sm_w1 r53.2 72 26 ((r49.2.1 72 26) ||| ((1 : Int32) <<< ((m.1 72 25) &&& (31 : Int32))))).1 72 22).toInt ≤ 80 := ki1168.1 72 22
                          have kc1212 : ((sm_w1 r53.2 72 26 ((r49.2.1 72 26) ||| ((1 : Int32) <<< ((m.1 72 25) &&& (31 : Int32))))).1 72 22).toInt = (r53.2.1 72 22).toInt := rfl
                          have kf1213 : Fr wX12_readsHedge m r2.2 := Fr.trans Fr.refl kf12 rfl
                          have kf1214 : Fr wX12_readsHedge m (sm_w1 r2.2 76 ((m.1 72 25)).toNatClampNeg r2.1) := Fr.w kf1213 rfl
                          have kf1215 : Fr wX12_readsHedge m r7.2 := Fr.trans kf1214 kf56 rfl
                          have kf1216 : Fr wX12_readsHedge m (sm_w1 r7.2 77 ((m.1 72 25)).toNatClampNeg r7.1) := Fr.w kf1215 rfl
                          have kf1217 : Fr wX12_readsHedge m r11.2 := Fr.trans kf1216 kf105 rfl
                          have kf1218 : Fr wX12_readsHedge m (sm_w1 r11.2 78 ((m.1 72 25)).toNatClampNeg r11.1) := Fr.w kf1217 rfl
                          have kf1219 : Fr wX12_readsHedge m r15.2 := Fr.trans kf1218 kf157 rfl
                          have kf1220 : Fr wX12_readsHedge m r17.2 := Fr.trans kf1219 kf207 rfl
                          have kf1221 : Fr wX12_readsHedge m (sm_w1 r17.2 79 ((m.1 72 25)).toNatClampNeg r17.1) := Fr.w kf1220 rfl
                          have kf1222 : Fr wX12_readsHedge m r21.2 := Fr.trans kf1221 kf235 rfl
                          have kf1223 : Fr wX12_readsHedge m (sm_w1 r21.2 80 ((m.1 72 25)).toNatClampNeg r21.1) := Fr.w kf1222 rfl
                          have kf1224 : Fr wX12_readsHedge m r25.2 := Fr.trans kf1223 kf285 rfl
                          have kf1225 : Fr wX12_readsHedge m r45.2 := Fr.trans kf1224 kf914 rfl
                          have kf1226 : Fr wX12_readsHedge m (sm_w1 r45.2 81 ((m.1 72 25)).toNatClampNeg r45.1) := Fr.w kf1225 rfl
                          have kf1227 : Fr wX12_readsHedge m r49.2 := Fr.trans kf1226 kf943 rfl
                          have kf1228 : Fr wX12_readsHedge m (sm_w1 r49.2 82 ((m.1 72 25)).toNatClampNeg (0 : Int32)) := Fr.w kf1227 rfl
                          have kf1229 : Fr wX12_readsHedge m r53.2 := Fr.trans kf1228 kf1000 rfl
                          have kf1230 : Fr wX12_readsHedge m (sm_w1 r53.2 72 26 ((r49.2.1 72 26) ||| ((1 : Int32) <<< ((m.1 72 25) &&& (31 : Int32))))) := Fr.w kf1229 rfl
                          have kf1231 : Fr wX12_readsHedge m (sm_w1 (sm_w1 r53.2 72 26 ((r49.2.1 72 26) ||| ((1 : Int32) <<< ((m.1 72 25) &&& (31 : Int32))))) 83 ((m.1 72 25)).toNatClampNeg (-1 : Int32)) := Fr.w kf1230 rfl
                          have kf1232 : Fr wX12_readsHedge m (sm_w1 (sm_w1 (sm_w1 r53.2 72 26 ((r49.2.1 72 26) ||| ((1 : Int32) <<< ((m.1 72 25) &&& (31 : Int32))))) 83 ((m.1 72 25)).toNatClampNeg (-1 : Int32)) 72 25 ((r53.2.1 72 25) + (1 : Int32))) := Fr.w kf1231 rfl
                          exact s_ret ⟨(show (0 ≤ (1 : Int32).toInt) ∧ ((1 : Int32).toInt ≤ 1) ∧ ((m.1 72 22).toInt ≤ ((sm_w1 (sm_w1 (sm_w1 r53.2 72 26 ((r49.2.1 72 26) ||| ((1 : Int32) <<< ((m.1 72 25) &&& (31 : Int32))))) 83 ((m.1 72 25)).toNatClampNeg (-1 : Int32)) 72 25 ((r53.2.1 72 25) + (1 : Int32))).1 72 22).toInt) by omega), ki1171, kf1232⟩
                      · omega
                    · refine s_bd (zX12_digit (9 : Int32) r49.2 (show 5 ≤ (9 : Int32).toInt ∧ (9 : Int32).toInt ≤ 9 by omega) ki942) (fun r57 kr1233 => ?_)
                      obtain ⟨kp1234, ki1235, kf1236⟩ := kr1233
                      replace kp1234 : ((-1 : Int) ≤ r57.1.toInt) ∧ (r57.1.toInt ≤ 9) ∧ ((r57.1.toInt < 0 ∧ (r57.2.1 72 22).toInt = (r49.2.1 72 22).toInt) ∨ (0 ≤ r57.1.toInt ∧ (r49.2.1 72 22).toInt < (r49.2.1 72 23).toInt ∧ (r57.2.1 72 22).toInt = (r49.2.1 72 22).toInt + 1)) := kp1234
                      have kc1237 : 0 ≤ (r57.2.1 72 22).toInt ∧ (r57.2.1 72 22).toInt ≤ 80 := ki1235.1 72 22
                      have kc1238 : 0 ≤ (r49.2.1 72 23).toInt ∧ (r49.2.1 72 23).toInt ≤ 76 := ki942.1 72 23
                      have kc1239 : (r49.2.1 72 23).toInt = ((sm_w1 r45.2 81 ((m.1 72 25)).toNatClampNeg r45.1).1 72 23).toInt := congrArg Int32.toInt (kf943 72 23 rfl)
                      have kc1240 : (-1 : Int) ≤ (r57.2.1 76 ((m.1 72 25)).toNatClampNeg).toInt ∧ (r57.2.1 76 ((m.1 72 25)).toNatClampNeg).toInt ≤ 9 := ki1235.1 76 ((m.1 72 25)).toNatClampNeg
                      have kc1241 : 0 ≤ (r57.2.1 72 6).toInt ∧ (r57.2.1 72 6).toInt ≤ 14 := ki1235.1 72 6
                      have kc1242 : 0 ≤ (r57.2.1 72 25).toInt ∧ (r57.2.1 72 25).toInt ≤ 14 := ki1235.1 72 25
                      have kc1243 := zI.le ki1235
                      have kc1244 : (r57.2.1 72 25).toInt = (r49.2.1 72 25).toInt := congrArg Int32.toInt (kf1236 72 25 rfl)
                      have kc1245 : (r57.2.1 72 6).toInt = (r49.2.1 72 6).toInt := congrArg Int32.toInt (kf1236 72 6 rfl)
                      have kc1246 := zI.pf76 ki1235 (m.1 72 25)
                      have kc1247 : (r57.2.1 76 ((m.1 72 25)).toNatClampNeg).toInt = (r49.2.1 76 ((m.1 72 25)).toNatClampNeg).toInt := congrArg Int32.toInt (kf1236 76 ((m.1 72 25)).toNatClampNeg rfl)
                      have kc1248 : (-1 : Int) ≤ (r57.2.1 77 ((m.1 72 25)).toNatClampNeg).toInt ∧ (r57.2.1 77 ((m.1 72 25)).toNatClampNeg).toInt ≤ 9 := ki1235.1 77 ((m.1 72 25)).toNatClampNeg
                      have kc1249 := zI.pf77 ki1235 (m.1 72 25)
                      have kc1250 : (r57.2.1 77 ((m.1 72 25)).toNatClampNeg).toInt = (r49.2.1 77 ((m.1 72 25)).toNatClampNeg).toInt := congrArg Int32.toInt (kf1236 77 ((m.1 72 25)).toNatClampNeg rfl)
                      have kc1251 : (-1 : Int) ≤ (r57.2.1 78 ((m.1 72 25)).toNatClampNeg).toInt ∧ (r57.2.1 78 ((m.1 72 25)).toNatClampNeg).toInt ≤ 20 := ki1235.1 78 ((m.1 72 25)).toNatClampNeg
                      have kc1252 := zI.pf78 ki1235 (m.1 72 25)
                      have kc1253 : (r57.2.1 78 ((m.1 72 25)).toNatClampNeg).toInt = (r49.2.1 78 ((m.1 72 25)).toNatClampNeg).toInt := congrArg Int32.toInt (kf1236 78 ((m.1 72 25)).toNatClampNeg rfl)
                      have kc1254 : (-1 : Int) ≤ (r57.2.1 82 ((m.1 72 25)).toNatClampNeg).toInt ∧ (r57.2.1 82 ((m.1 72 25)).toNatClampNeg).toInt ≤ 9 := ki1235.1 82 ((m.1 72 25)).toNatClampNeg
                      have kc1255 := zI.pf82 ki1235 (m.1 72 25)
                      have kc1256 : (r57.2.1 82 ((m.1 72 25)).toNatClampNeg).toInt = (r49.2.1 82 ((m.1 72 25)).toNatClampNeg).toInt := congrArg Int32.toInt (kf1236 82 ((m.1 72 25)).toNatClampNeg rfl)
                      refine s_ix kx41 ?_
                      refine s_ix kx41 ?_
                      have ki1257 : zI (sm_w1 r57.2 82 ((m.1 72 25)).toNatClampNeg r57.1) := zI.w82 ki1235 (show (-1 : Int) ≤ (r57.1).toInt ∧ (r57.1).toInt ≤ 9 by omega) (show 0 ≤ (r57.1).toInt ∨ (r57.2.1 72 25).toInt ≤ ((m.1 72 25)).toInt by omega) (show 0 ≤ ((m.1 72 25)).toInt by omega)
                      have kc1258 : (-1 : Int) ≤ ((sm_w1 r57.2 82 ((m.1 72 25)).toNatClampNeg r57.1).1 82 ((m.1 72 25)).toNatClampNeg).toInt ∧ ((sm_w1 r57.2 82 ((m.1 72 25)).toNatClampNeg r57.1).1 82 ((m.1 72 25)).toNatClampNeg).toInt ≤ 9 := ki1257.1 82 ((m.1 72 25)).toNatClampNeg
                      have kc1259 : 0 ≤ ((sm_w1 r57.2 82 ((m.1 72 25)).toNatClampNeg r57.1).1 72 6).toInt ∧ ((sm_w1 r57.2 82 ((m.1 72 25)).toNatClampNeg r57.1).1 72 6).toInt ≤ 14 := ki1257.1 72 6
                      have kc1260 : 0 ≤ ((sm_w1 r57.2 82 ((m.1 72 25)).toNatClampNeg r57.1).1 72 25).toInt ∧ ((sm_w1 r57.2 82 ((m.1 72 25)).toNatClampNeg r57.1).1 72 25).toInt ≤ 14 := ki1257.1 72 25
                      have kc1261 := zI.le ki1257
                      have kc1262 : ((sm_w1 r57.2 82 ((m.1 72 25)).toNatClampNeg r57.1).1 72 25).toInt = (r57.2.1 72 25).toInt := congrArg Int32.toInt (r_cell (by decide))
                      have kc1263 : ((sm_w1 r57.2 82 ((m.1 72 25)).toNatClampNeg r57.1).1 72 6).toInt = (r57.2.1 72 6).toInt := congrArg Int32.toInt (r_cell (by decide))
                      have kc1264 := zI.pf82 ki1257 (m.1 72 25)
                      have kc1265 : ((sm_w1 r57.2 82 ((m.1 72 25)).toNatClampNeg r57.1).1 82 ((m.1 72 25)).toNatClampNeg).toInt = (r57.1).toInt := congrArg Int32.toInt r_hit
                      refine s_le (fun kh1266 => ?_) (fun kh1266 => ?_)
                      · have kc1267 := L103
                        refine s_bd (zX12_takes (103 : Int32) (sm_w1 r57.2 82 ((m.1 72 25)).toNatClampNeg r57.1) (show 58 ≤ (103 : Int32).toInt ∧ (103 : Int32).toInt ≤ 126 by omega) ki1257) (fun r61 kr1268 => ?_)
                        obtain ⟨kp1269, ki1270, kf1271⟩ := kr1268
                        replace kp1269 : (0 ≤ r61.1.toInt) ∧ (r61.1.toInt ≤ 1) ∧ ((r61.1.toInt = 0 ∧ (r61.2.1 72 22).toInt = ((sm_w1 r57.2 82 ((m.1 72 25)).toNatClampNeg r57.1).1 72 22).toInt) ∨ (r61.1.toInt = 1 ∧ ((sm_w1 r57.2 82 ((m.1 72 25)).toNatClampNeg r57.1).1 72 22).toInt < ((sm_w1 r57.2 82 ((m.1 72 25)).toNatClampNeg r57.1).1 72 23).toInt ∧ (r61.2.1 72 22).toInt = ((sm_w1 r57.2 82 ((m.1 72 25)).toNatClampNeg r57.1).1 72 22).toInt + 1)) := kp1269
                        have kc1272 : 0 ≤ (r61.2.1 72 22).toInt ∧ (r61.2.1 72 22).toInt ≤ 80 := ki1270.1 72 22
                        have kc1273 : 0 ≤ ((sm_w1 r57.2 82 ((m.1 72 25)).toNatClampNeg r57.1).1 72 22).toInt ∧ ((sm_w1 r57.2 82 ((m.1 72 25)).toNatClampNeg r57.1).1 72 22).toInt ≤ 80 := ki1257.1 72 22
                        have kc1274 : ((sm_w1 r57.2 82 ((m.1 72 25)).toNatClampNeg r57.1).1 72 22).toInt = (r57.2.1 72 22).toInt := congrArg Int32.toInt (r_cell (by decide))
                        have kc1275 : 0 ≤ ((sm_w1 r57.2 82 ((m.1 72 25)).toNatClampNeg r57.1).1 72 23).toInt ∧ ((sm_w1 r57.2 82 ((m.1 72 25)).toNatClampNeg r57.1).1 72 23).toInt ≤ 76 := ki1257.1 72 23
                        have kc1276 : ((sm_w1 r57.2 82 ((m.1 72 25)).toNatClampNeg r57.1).1 72 23).toInt = (r57.2.1 72 23).toInt := congrArg Int32.toInt (r_cell (by decide))
                        have kc1277 : 0 ≤ (r57.2.1 72 23).toInt ∧ (r57.2.1 72 23).toInt ≤ 76 := ki1235.1 72 23
                        have kc1278 : (r57.2.1 72 23).toInt = (r49.2.1 72 23).toInt := congrArg Int32.toInt (kf1236 72 23 rfl)
                        have kc1279 : (-1 : Int) ≤ (r61.2.1 76 ((m.1 72 25)).toNatClampNeg).toInt ∧ (r61.2.1 76 ((m.1 72 25)).toNatClampNeg).toInt ≤ 9 := ki1270.1 76 ((m.1 72 25)).toNatClampNeg
                        have kc1280 : 0 ≤ (r61.2.1 72 6).toInt ∧ (r61.2.1 72 6).toInt ≤ 14 := ki1270.1 72 6
                        have kc1281 : 0 ≤ (r61.2.1 72 25).toInt ∧ (r61.2.1 72 25).toInt ≤ 14 := ki1270.1 72 25
                        have kc1282 := zI.le ki1270
                        have kc1283 : (r61.2.1 72 25).toInt = ((sm_w1 r57.2 82 ((m.1 72 25)).toNatClampNeg r57.1).1 72 25).toInt := congrArg Int32.toInt (kf1271 72 25 rfl)
                        have kc1284 : (r61.2.1 72 6).toInt = ((sm_w1 r57.2 82 ((m.1 72 25)).toNatClampNeg r57.1).1 72 6).toInt := congrArg Int32.toInt (kf1271 72 6 rfl)
                        have kc1285 := zI.pf76 ki1270 (m.1 72 25)
                        have kc1286 : (r61.2.1 76 ((m.1 72 25)).toNatClampNeg).toInt = ((sm_w1 r57.2 82 ((m.1 72 25)).toNatClampNeg r57.1).1 76 ((m.1 72 25)).toNatClampNeg).toInt := congrArg Int32.toInt (kf1271 76 ((m.1 72 25)).toNatClampNeg rfl)
                        have kc1287 : (-1 : Int) ≤ ((sm_w1 r57.2 82 ((m.1 72 25)).toNatClampNeg r57.1).1 76 ((m.1 72 25)).toNatClampNeg).toInt ∧ ((sm_w1 r57.2 82 ((m.1 72 25)).toNatClampNeg r57.1).1 76 ((m.1 72 25)).toNatClampNeg).toInt ≤ 9 := ki1257.1 76 ((m.1 72 25)).toNatClampNeg
                        have kc1288 := zI.pf76 ki1257 (m.1 72 25)
                        have kc1289 : ((sm_w1 r57.2 82 ((m.1 72 25)).toNatClampNeg r57.1).1 76 ((m.1 72 25)).toNatClampNeg).toInt = (r57.2.1 76 ((m.1 72 25)).toNatClampNeg).toInt := congrArg Int32.toInt (r_cell (by decide))
                        have kc1290 : (-1 : Int) ≤ (r61.2.1 77 ((m.1 72 25)).toNatClampNeg).toInt ∧ (r61.2.1 77 ((m.1 72 25)).toNatClampNeg).toInt ≤ 9 := ki1270.1 77 ((m.1 72 25)).toNatClampNeg
                        have kc1291 := zI.pf77 ki1270 (m.1 72 25)
                        have kc1292 : (r61.2.1 77 ((m.1 72 25)).toNatClampNeg).toInt = ((sm_w1 r57.2 82 ((m.1 72 25)).toNatClampNeg r57.1).1 77 ((m.1 72 25)).toNatClampNeg).toInt := congrArg Int32.toInt (kf1271 77 ((m.1 72 25)).toNatClampNeg rfl)
                        have kc1293 : (-1 : Int) ≤ ((sm_w1 r57.2 82 ((m.1 72 25)).toNatClampNeg r57.1).1 77 ((m.1 72 25)).toNatClampNeg).toInt ∧ ((sm_w1 r57.2 82 ((m.1 72 25)).toNatClampNeg r57.1).1 77 ((m.1 72 25)).toNatClampNeg).toInt ≤ 9 := ki1257.1 77 ((m.1 72 25)).toNatClampNeg
                        have kc1294 := zI.pf77 ki1257 (m.1 72 25)
                        have kc1295 : ((sm_w1 r57.2 82 ((m.1 72 25)).toNatClampNeg r57.1).1 77 ((m.1 72 25)).toNatClampNeg).toInt = (r57.2.1 77 ((m.1 72 25)).toNatClampNeg).toInt := congrArg Int32.toInt (r_cell (by decide))
                        have kc1296 : (-1 : Int) ≤ (r61.2.1 78 ((m.1 72 25)).toNatClampNeg).toInt ∧ (r61.2.1 78 ((m.1 72 25)).toNatClampNeg).toInt ≤ 20 := ki1270.1 78 ((m.1 72 25)).toNatClampNeg
                        have kc1297 := zI.pf78 ki1270 (m.1 72 25)
                        have kc1298 : (r61.2.1 78 ((m.1 72 25)).toNatClampNeg).toInt = ((sm_w1 r57.2 82 ((m.1 72 25)).toNatClampNeg r57.1).1 78 ((m.1 72 25)).toNatClampNeg).toInt := congrArg Int32.toInt (kf1271 78 ((m.1 72 25)).toNatClampNeg rfl)
                        have kc1299 : (-1 : Int) ≤ ((sm_w1 r57.2 82 ((m.1 72 25)).toNatClampNeg r57.1).1 78 ((m.1 72 25)).toNatClampNeg).toInt ∧ ((sm_w1 r57.2 82 ((m.1 72 25)).toNatClampNeg r57.1).1 78 ((m.1 72 25)).toNatClampNeg).toInt ≤ 20 := ki1257.1 78 ((m.1 72 25)).toNatClampNeg
                        have kc1300 := zI.pf78 ki1257 (m.1 72 25)
                        have kc1301 : ((sm_w1 r57.2 82 ((m.1 72 25)).toNatClampNeg r57.1).1 78 ((m.1 72 25)).toNatClampNeg).toInt = (r57.2.1 78 ((m.1 72 25)).toNatClampNeg).toInt := congrArg Int32.toInt (r_cell (by decide))
                        have kc1302 : (-1 : Int) ≤ (r61.2.1 82 ((m.1 72 25)).toNatClampNeg).toInt ∧ (r61.2.1 82 ((m.1 72 25)).toNatClampNeg).toInt ≤ 9 := ki1270.1 82 ((m.1 72 25)).toNatClampNeg
                        have kc1303 := zI.pf82 ki1270 (m.1 72 25)
                        have kc1304 : (r61.2.1 82 ((m.1 72 25)).toNatClampNeg).toInt = ((sm_w1 r57.2 82 ((m.1 72 25)).toNatClampNeg r57.1).1 82 ((m.1 72 25)).toNatClampNeg).toInt := congrArg Int32.toInt (kf1271 82 ((m.1 72 25)).toNatClampNeg rfl)
                        refine s_eq (fun kh1305 => ?_) (fun kh1305 => ?_)
                        · refine s_ix kx41 ?_
                          have kc1306 : 0 ≤ (r57.2.1 72 26).toInt ∧ (r57.2.1 72 26).toInt ≤ 16383 := ki1235.1 72 26
                          have kc1307 : (r57.2.1 72 26).toInt = (r49.2.1 72 26).toInt := congrArg Int32.toInt (kf1236 72 26 rfl)
                          have kc1308 : 0 ≤ (r49.2.1 72 26).toInt ∧ (r49.2.1 72 26).toInt ≤ 16383 := ki942.1 72 26
                          have kc1309 : (r49.2.1 72 26).toInt = ((sm_w1 r45.2 81 ((m.1 72 25)).toNatClampNeg r45.1).1 72 26).toInt := congrArg Int32.toInt (kf943 72 26 rfl)
                          have kc1310 : 0 ≤ ((sm_w1 r45.2 81 ((m.1 72 25)).toNatClampNeg r45.1).1 72 26).toInt ∧ ((sm_w1 r45.2 81 ((m.1 72 25)).toNatClampNeg r45.1).1 72 26).toInt ≤ 16383 := ki935.1 72 26
                          have kc1311 : ((sm_w1 r45.2 81 ((m.1 72 25)).toNatClampNeg r45.1).1 72 26).toInt = (r45.2.1 72 26).toInt := congrArg Int32.toInt (r_cell (by decide))
                          have kc1312 : 0 ≤ (r45.2.1 72 26).toInt ∧ (r45.2.1 72 26).toInt ≤ 16383 := ki913.1 72 26
                          have kc1313 : (r45.2.1 72 26).toInt = (r25.2.1 72 26).toInt := congrArg Int32.toInt (kf914 72 26 rfl)
                          have kc1314 : 0 ≤ (r25.2.1 72 26).toInt ∧ (r25.2.1 72 26).toInt ≤ 16383 := ki284.1 72 26
                          have kc1315 : (r25.2.1 72 26).toInt = ((sm_w1 r21.2 80 ((m.1 72 25)).toNatClampNeg r21.1).1 72 26).toInt := congrArg Int32.toInt (kf285 72 26 rfl)
                          have kc1316 : 0 ≤ ((sm_w1 r21.2 80 ((m.1 72 25)).toNatClampNeg r21.1).1 72 26).toInt ∧ ((sm_w1 r21.2 80 ((m.1 72 25)).toNatClampNeg r21.1).1 72 26).toInt ≤ 16383 := ki277.1 72 26
                          have kc1317 : ((sm_w1 r21.2 80 ((m.1 72 25)).toNatClampNeg r21.1).1 72 26).toInt = (r21.2.1 72 26).toInt := congrArg Int32.toInt (r_cell (by decide))
                          have kc1318 : 0 ≤ (r21.2.1 72 26).toInt ∧ (r21.2.1 72 26).toInt ≤ 16383 := ki234.1 72 26
                          have kc1319 : (r21.2.1 72 26).toInt = ((sm_w1 r17.2 79 ((m.1 72 25)).toNatClampNeg r17.1).1 72 26).toInt := congrArg Int32.toInt (kf235 72 26 rfl)
                          have kc1320 : 0 ≤ ((sm_w1 r17.2 79 ((m.1 72 25)).toNatClampNeg r17.1).1 72 26).toInt ∧ ((sm_w1 r17.2 79 ((m.1 72 25)).toNatClampNeg r17.1).1 72 26).toInt ≤ 16383 := ki228.1 72 26
                          have kc1321 : ((sm_w1 r17.2 79 ((m.1 72 25)).toNatClampNeg r17.1).1 72 26).toInt = (r17.2.1 72 26).toInt := congrArg Int32.toInt (r_cell (by decide))
                          have kc1322 : 0 ≤ (r17.2.1 72 26).toInt ∧ (r17.2.1 72 26).toInt ≤ 16383 := ki206.1 72 26
                          have kc1323 : (r17.2.1 72 26).toInt = (r15.2.1 72 26).toInt := congrArg Int32.toInt (kf207 72 26 rfl)
                          have kc1324 : 0 ≤ (r15.2.1 72 26).toInt ∧ (r15.2.1 72 26).toInt ≤ 16383 := ki156.1 72 26
                          have kc1325 : (r15.2.1 72 26).toInt = ((sm_w1 r11.2 78 ((m.1 72 25)).toNatClampNeg r11.1).1 72 26).toInt := congrArg Int32.toInt (kf157 72 26 rfl)
                          have kc1326 : 0 ≤ ((sm_w1 r11.2 78 ((m.1 72 25)).toNatClampNeg r11.1).1 72 26).toInt ∧ ((sm_w1 r11.2 78 ((m.1 72 25)).toNatClampNeg r11.1).1 72 26).toInt ≤ 16383 := ki135.1 72 26
                          have kc1327 : ((sm_w1 r11.2 78 ((m.1 72 25)).toNatClampNeg r11.1).1 72 26).toInt = (r11.2.1 72 26).toInt := congrArg Int32.toInt (r_cell (by decide))
                          have kc1328 : 0 ≤ (r11.2.1 72 26).toInt ∧ (r11.2.1 72 26).toInt ≤ 16383 := ki104.1 72 26
                          have kc1329 : (r11.2.1 72 26).toInt = ((sm_w1 r7.2 77 ((m.1 72 25)).toNatClampNeg r7.1).1 72 26).toInt := congrArg Int32.toInt (kf105 72 26 rfl)
                          have kc1330 : 0 ≤ ((sm_w1 r7.2 77 ((m.1 72 25)).toNatClampNeg r7.1).1 72 26).toInt ∧ ((sm_w1 r7.2 77 ((m.1 72 25)).toNatClampNeg r7.1).1 72 26).toInt ≤ 16383 := ki90.1 72 26
                          have kc1331 : ((sm_w1 r7.2 77 ((m.1 72 25)).toNatClampNeg r7.1).1 72 26).toInt = (r7.2.1 72 26).toInt := congrArg Int32.toInt (r_cell (by decide))
                          have kc1332 : 0 ≤ (r7.2.1 72 26).toInt ∧ (r7.2.1 72 26).toInt ≤ 16383 := ki55.1 72 26
                          have kc1333 : (r7.2.1 72 26).toInt = ((sm_w1 r2.2 76 ((m.1 72 25)).toNatClampNeg r2.1).1 72 26).toInt := congrArg Int32.toInt (kf56 72 26 rfl)
                          have kc1334 : 0 ≤ ((sm_w1 r2.2 76 ((m.1 72 25)).toNatClampNeg r2.1).1 72 26).toInt ∧ ((sm_w1 r2.2 76 ((m.1 72 25)).toNatClampNeg r2.1).1 72 26).toInt ≤ 16383 := ki43.1 72 26
                          have kc1335 : ((sm_w1 r2.2 76 ((m.1 72 25)).toNatClampNeg r2.1).1 72 26).toInt = (r2.2.1 72 26).toInt := congrArg Int32.toInt (r_cell (by decide))
                          have kc1336 : 0 ≤ (r2.2.1 72 26).toInt ∧ (r2.2.1 72 26).toInt ≤ 16383 := ki11.1 72 26
                          have kc1337 : (r2.2.1 72 26).toInt = (m.1 72 26).toInt := congrArg Int32.toInt (kf12 72 26 rfl)
                          have kc1338 : 0 ≤ (m.1 72 26).toInt ∧ (m.1 72 26).toInt ≤ 16383 := hI.1 72 26
                          have kc1339 : 0 ≤ ((r57.2.1 72 26) ||| (0 : Int32)).toInt ∧ ((r57.2.1 72 26) ||| (0 : Int32)).toInt < 16384 := a_or 14 (by decide) (by decide) (by omega) (by omega) (by omega) (by omega)
                          have ki1340 : zI (sm_w1 r61.2 72 26 ((r57.2.1 72 26) ||| (0 : Int32))) := zI.w ki1270 rfl (show 0 ≤ (((r57.2.1 72 26) ||| (0 : Int32))).toInt ∧ (((r57.2.1 72 26) ||| (0 : Int32))).toInt ≤ 16383 by omega)
                          have ki1341 : zI (sm_w1 (sm_w1 r61.2 72 26 ((r57.2.1 72 26) ||| (0 : Int32))) 83 ((m.1 72 25)).toNatClampNeg (-1 : Int32)) := zI.w ki1340 rfl (rg _)
                          have kc1342 : ((r61.2.1 72 25) + (1 : Int32)).toInt = ((r61.2.1 72 25)).toInt + 1 := a_addl L1 (by omega) (by omega)
                          have kc1344 : 0 ≤ ((sm_w1 (sm_w1 r61.2 72 26 ((r57.2.1 72 26) ||| (0 : Int32))) 83 ((m.1 72 25)).toNatClampNeg (-1 : Int32)).1 72 6).toInt ∧ ((sm_w1 (sm_w1 r61.2 72 26 ((r57.2.1 72 26) ||| (0 : Int32))) 83 ((m.1 72 25)).toNatClampNeg (-1 : Int32)).1 72 6).toInt ≤ 14 := ki1341.1 72 6
                          have kc1345 : 0 ≤ ((sm_w1 (sm_w1 r61.2 72 26 ((r57.2.1 72 26) ||| (0 : Int32))) 83 ((m.1 72 25)).toNatClampNeg (-1 : Int32)).1 72 25).toInt ∧ ((sm_w1 (sm_w1 r61.2 72 26 ((r57.2.1 72 26) ||| (0 : Int32))) 83 ((m.1 72 25)).toNatClampNeg (-1 : Int32)).1 72 25).toInt ≤ 14 := ki1341.1 72 25
                          have kc1346 := zI.le ki1341
                          have kc1347 : ((sm_w1 (sm_w1 r61.2 72 26 ((r57.2.1 72 26) ||| (0 : Int32))) 83 ((m.1 72 25)).toNatClampNeg (-1 : Int32)).1 72 25).toInt = ((sm_w1 r61.2 72 26 ((r57.2.1 72 26) ||| (0 : Int32))).1 72 25).toInt := congrArg Int32.toInt (r_cell (by decide))
                          have kc1348 : 0 ≤ ((sm_w1 r61.2 72 26 ((r57.2.1 72 26) ||| (0 : Int32))).1 72 25).toInt ∧ ((sm_w1 r61.2 72 26 ((r57.2.1 72 26) ||| (0 : Int32))).1 72 25).toInt ≤ 14 := ki1340.1 72 25
                          have kc1349 : 0 ≤ ((sm_w1 r61.2 72 26 ((r57.2.1 72 26) ||| (0 : Int32))).1 72 6).toInt ∧ ((sm_w1 r61.2 72 26 ((r57.2.1 72 26) ||| (0 : Int32))).1 72 6).toInt ≤ 14 := ki1340.1 72 6
                          have kc1350 := zI.le ki1340
                          have kc1351 : ((sm_w1 r61.2 72 26 ((r57.2.1 72 26) ||| (0 : Int32))).1 72 6).toInt = (r61.2.1 72 6).toInt := rfl
                          have kc1352 : ((sm_w1 r61.2 72 26 ((r57.2.1 72 26) ||| (0 : Int32))).1 72 25).toInt = (r61.2.1 72 25).toInt := rfl
                          have kc1353 : ((sm_w1 (sm_w1 r61.2 72 26 ((r57.2.1 72 26) ||| (0 : Int32))) 83 ((m.1 72 25)).toNatClampNeg (-1 : Int32)).1 72 6).toInt = ((sm_w1 r61.2 72 26 ((r57.2.1 72 26) ||| (0 : Int32))).1 72 6).toInt := congrArg Int32.toInt (r_cell (by decide))
                          have kc1354 := a_tn (show 0 ≤ (m.1 72 25).toInt by omega)
                          have kc1355 : (-1 : Int) ≤ ((sm_w1 (sm_w1 r61.2 72 26 ((r57.2.1 72 26) ||| (0 : Int32))) 83 ((m.1 72 25)).toNatClampNeg (-1 : Int32)).1 76 ((m.1 72 25)).toNatClampNeg).toInt ∧ ((sm_w1 (sm_w1 r61.2 72 26 ((r57.2.1 72 26) ||| (0 : Int32))) 83 ((m.1 72 25)).toNatClampNeg (-1 : Int32)).1 76 ((m.1 72 25)).toNatClampNeg).toInt ≤ 9 := ki1341.1 76 ((m.1 72 25)).toNatClampNeg
                          have kc1356 := zI.pf76 ki1341 (m.1 72 25)
                          have kc1357 : ((sm_w1 (sm_w1 r61.2 72 26 ((r57.2.1 72 26) ||| (0 : Int32))) 83 ((m.1 72 25)).toNatClampNeg (-1 : Int32)).1 76 ((m.1 72 25)).toNatClampNeg).toInt = ((sm_w1 r61.2 72 26 ((r57.2.1 72 26) ||| (0 : Int32))).1 76 ((m.1 72 25)).toNatClampNeg).toInt := congrArg Int32.toInt (r_cell (by decide))
                          have kc1358 : (-1 : Int) ≤ ((sm_w1 r61.2 72 26 ((r57.2.1 72 26) ||| (0 : Int32))).1 76 ((m.1 72 25)).toNatClampNeg).toInt ∧ ((sm_w1 r61.2 72 26 ((r57.2.1 72 26) ||| (0 : Int32))).1 76 ((m.1 72 25)).toNatClampNeg).toInt ≤ 9 := ki1340.1 76 ((m.1 72 25)).toNatClampNeg
                          have kc1359 := zI.pf76 ki1340 (m.1 72 25)
                          have kc1360 : ((sm_w1 r61.2 72 26 ((r57.2.1 72 26) ||| (0 : Int32))).1 76 ((m.1 72 25)).toNatClampNeg).toInt = (r61.2.1 76 ((m.1 72 25)).toNatClampNeg).toInt := congrArg Int32.toInt (r_cell (by decide))
                          have kc1361 : (-1 : Int) ≤ ((sm_w1 (sm_w1 r61.2 72 26 ((r57.2.1 72 26) ||| (0 : Int32))) 83 ((m.1 72 25)).toNatClampNeg (-1 : Int32)).1 77 ((m.1 72 25)).toNatClampNeg).toInt ∧ ((sm_w1 (sm_w1 r61.2 72 26 ((r57.2.1 72 26) ||| (0 : Int32))) 83 ((m.1 72 25)).toNatClampNeg (-1 : Int32)).1 77 ((m.1 72 25)).toNatClampNeg).toInt ≤ 9 := ki1341.1 77 ((m.1 72 25)).toNatClampNeg
                          have kc1362 := zI.pf77 ki1341 (m.1 72 25)
                          have kc1363 : ((sm_w1 (sm_w1 r61.2 72 26 ((r57.2.1 72 26) ||| (0 : Int32))) 83 ((m.1 72 25)).toNatClampNeg (-1 : Int32)).1 77 ((m.1 72 25)).toNatClampNeg).toInt = ((sm_w1 r61.2 72 26 ((r57.2.1 72 26) ||| (0 : Int32))).1 77 ((m.1 72 25)).toNatClampNeg).toInt := congrArg Int32.toInt (r_cell (by decide))
                          have kc1364 : (-1 : Int) ≤ ((sm_w1 r61.2 72 26 ((r57.2.1 72 26) ||| (0 : Int32))).1 77 ((m.1 72 25)).toNatClampNeg).toInt ∧ ((sm_w1 r61.2 72 26 ((r57.2.1 72 26) ||| (0 : Int32))).1 77 ((m.1 72 25)).toNatClampNeg).toInt ≤ 9 := ki1340.1 77 ((m.1 72 25)).toNatClampNeg
                          have kc1365 := zI.pf77 ki1340 (m.1 72 25)
                          have kc1366 : ((sm_w1 r61.2 72 26 ((r57.2.1 72 26) ||| (0 : Int32))).1 77 ((m.1 72 25)).toNatClampNeg).toInt = (r61.2.1 77 ((m.1 72 25)).toNatClampNeg).toInt := congrArg Int32.toInt (r_cell (by decide))
                          have kc1367 : (-1 : Int) ≤ ((sm_w1 (sm_w1 r61.2 72 26 ((r57.2.1 72 26) ||| (0 : Int32))) 83 ((m.1 72 25)).toNatClampNeg (-1 : Int32)).1 78 ((m.1 72 25)).toNatClampNeg).toInt ∧ ((sm_w1 (sm_w1 r61.2 72 26 ((r57.2.1 72 26) ||| (0 : Int32))) 83 ((m.1 72 25)).toNatClampNeg (-1 : Int32)).1 78 ((m.1 72 25)).toNatClampNeg).toInt ≤ 20 := ki1341.1 78 ((m.1 72 25)).toNatClampNeg
                          have kc1368 := zI.pf78 ki1341 (m.1 72 25)
                          have kc1369 : ((sm_w1 (sm_w1 r61.2 72 26 ((r57.2.1 72 26) ||| (0 : Int32))) 83 ((m.1 72 25)).toNatClampNeg (-1 : Int32)).1 78 ((m.1 72 25)).toNatClampNeg).toInt = ((sm_w1 r61.2 72 26 ((r57.2.1 72 26) ||| (0 : Int32))).1 78 ((m.1 72 25)).toNatClampNeg).toInt := congrArg Int32.toInt (r_cell (by decide))
                          have kc1370 : (-1 : Int) ≤ ((sm_w1 r61.2 72 26 ((r57.2.1 72 26) ||| (0 : Int32))).1 78 ((m.1 72 25)).toNatClampNeg).toInt ∧ ((sm_w1 r61.2 72 26 ((r57.2.1 72 26) ||| (0 : Int32))).1 78 ((m.1 72 25)).toNatClampNeg).toInt ≤ 20 := ki1340.1 78 ((m.1 72 25)).toNatClampNeg
                          have kc1371 := zI.pf78 ki1340 (m.1 72 25)
                          have kc1372 : ((sm_w1 r61.2 72 26 ((r57.2.1 72 26) ||| (0 : Int32))).1 78 ((m.1 72 25)).toNatClampNeg).toInt = (r61.2.1 78 ((m.1 72 25)).toNatClampNeg).toInt := congrArg Int32.toInt (r_cell (by decide))
                          have kc1373 : (-1 : Int) ≤ ((sm_w1 (sm_w1 r61.2 72 26 ((r57.2.1 72 26) ||| (0 : Int32))) 83 ((m.1 72 25)).toNatClampNeg (-1 : Int32)).1 82 ((m.1 72 25)).toNatClampNeg).toInt ∧ ((sm_w1 (sm_w1 r61.2 72 26 ((r57.2.1 72 26) ||| (0 : Int32))) 83 ((m.1 72 25)).toNatClampNeg (-1 : Int32)).1 82 ((m.1 72 25)).toNatClampNeg).toInt ≤ 9 := ki1341.1 82 ((m.1 72 25)).toNatClampNeg
                          have kc1374 := zI.pf82 ki1341 (m.1 72 25)
                          have kc1375 : ((sm_w1 (sm_w1 r61.2 72 26 ((r57.2.1 72 26) ||| (0 : Int32))) 83 ((m.1 72 25)).toNatClampNeg (-1 : Int32)).1 82 ((m.1 72 25)).toNatClampNeg).toInt = ((sm_w1 r61.2 72 26 ((r57.2.1 72 26) ||| (0 : Int32))).1 82 ((m.1 72 25)).toNatClampNeg).toInt := congrArg Int32.toInt (r_cell (by decide))
                          have kc1376 : (-1 : Int) ≤ ((sm_w1 r61.2 72 26 ((r57.2.1 72 26) ||| (0 : Int32))).1 82 ((m.1 72 25)).toNatClampNeg).toInt ∧ ((sm_w1 r61.2 72 26 ((r57.2.1 72 26) ||| (0 : Int32))).1 82 ((m.1 72 25)).toNatClampNeg).toInt ≤ 9 := ki1340.1 82 ((m.1 72 25)).toNatClampNeg
                          have kc1377 := zI.pf82 ki1340 (m.1 72 25)
                          have kc1378 : ((sm_w1 r61.2 72 26 ((r57.2.1 72 26) ||| (0 : Int32))).1 82 ((m.1 72 25)).toNatClampNeg).toInt = (r61.2.1 82 ((m.1 72 25)).toNatClampNeg).toInt := congrArg Int32.toInt (r_cell (by decide))
                          have ki1343 : zI (sm_w1 (sm_w1 (sm_w1 r61.2 72 26 ((r57.2.1 72 26) ||| (0 : Int32))) 83 ((m.1 72 25)).toNatClampNeg (-1 : Int32)) 72 25 ((r61.2.1 72 25) + (1 : Int32))) := zI.w25b ((m.1 72 25)).toNatClampNeg ki1341 (show 0 ≤ (((r61.2.1 72 25) + (1 : Int32))).toInt ∧ (((r61.2.1 72 25) + (1 : Int32))).toInt ≤ 14 by omega) (show (((r61.2.1 72 25) + (1 : Int32))).toInt = ((sm_w1 (sm_w1 r61.2 72 26 ((r57.2.1 72 26) ||| (0 : Int32))) 83 ((m.1 72 25)).toNatClampNeg (-1 : Int32)).1 72 25).toInt + 1 by omega) (show ((((m.1 72 25)).toNatClampNeg : Nat) : Int) = ((sm_w1 (sm_w1 r61.2 72 26 ((r57.2.1 72 26) ||| (0 : Int32))) 83 ((m.1 72 25)).toNatClampNeg (-1 : Int32)).1 72 25).toInt by omega) (show 0 ≤ ((sm_w1 (sm_w1 r61.2 72 26 ((r57.2.1 72 26) ||| (0 : Int32))) 83 ((m.1 72 25)).toNatClampNeg (-1 : Int32)).1 76 ((m.1 72 25)).toNatClampNeg).toInt by omega) (show 0 ≤ ((sm_w1 (sm_w1 r61.2 72 26 ((r57.2.1 72 26) ||| (0 : Int32))) 83 ((m.1 72 25)).toNatClampNeg (-1 : Int32)).1 77 ((m.1 72 25)).toNatClampNeg).toInt by omega) (show 1 ≤ ((sm_w1 (sm_w1 r61.2 72 26 ((r57.2.1 72 26) ||| (0 : Int32))) 83 ((m.1 72 25)).toNatClampNeg (-1 : Int32)).1 78 ((m.1 72 25)).toNatClampNeg).toInt by omega) (show 0 ≤ ((sm_w1 (sm_w1 r61.2 72 26 ((r57.2.1 72 26) ||| (0 : Int32))) 83 ((m.1 72 25)).toNatClampNeg (-1 : Int32)).1 82 ((m.1 72 25)).toNatClampNeg).toInt by omega)
                          have kc1379 : 0 ≤ ((sm_w1 (sm_w1 (sm_w1 r61.2 72 26 ((r57.2.1 72 26) ||| (0 : Int32))) 83 ((m.1 72 25)).toNatClampNeg (-1 : Int32)) 72 25 ((r61.2.1 72 25) + (1 : Int32))).1 72 22).toInt ∧ ((sm_w1 (sm_w1 (sm_w1 r61.2 72 26 ((r57.2.1 72 26) ||| (0 : Int32))) 83 ((m.1 72 25)).toNatClampNeg (-1 : Int32)) 72 25 ((r61.2.1 72 25) + (1 : Int32))).1 72 22).toInt ≤ 80 := ki1343.1 72 22
                          have kc1380 : ((sm_w1 (sm_w1 (sm_w1 r61.2 72 26 ((r57.2.1 72 26) ||| (0 : Int32))) 83 ((m.1 72 25)).toNatClampNeg (-1 : Int32)) 72 25 ((r61.2.1 72 25) + (1 : Int32))).1 72 22).toInt = ((sm_w1 (sm_w1 r61.2 72 26 ((r57.2.1 72 26) ||| (0 : Int32))) 83 ((m.1 72 25)).toNatClampNeg (-1 : Int32)).1 72 22).toInt := rfl
                          have kc1381 : 0 ≤ ((sm_w1 (sm_w1 r61.2 72 26 ((r57.2.1 72 26) ||| (0 : Int32))) 83 ((m.1 72 25)).toNatClampNeg (-1 : Int32)).1 72 22).toInt ∧ ((sm_w1 (sm_w1 r61.2 72 26 ((r57.2.1 72 26) ||| (0 : Int32))) 83 ((m.1 72 25)).toNatClampNeg (-1 : Int32)).1 72 22).toInt ≤ 80 := ki1341.1 72 22
                          have kc1382 : ((sm_w1 (sm_w1 r61.2 72 26 ((r57.2.1 72 26) ||| (0 : Int32))) 83 ((m.1 72 25)).toNatClampNeg (-1 : Int32)).1 72 22).toInt = ((sm_w1 r61.2 72 26 ((r57.2.1 72 26) ||| (0 : Int32))).1 72 22).toInt := congrArg Int32.toInt (r_cell (by decide))
                          have kc1383 : 0 ≤ ((sm_w1 r61.2 72 26 ((r57.2.1 72 26) ||| (0 : Int32))).1 72 22).toInt ∧ ((sm_w1 r61.2 72 26 ((r57.2.1 72 26) ||| (0 : Int32))).1 72 22).toInt ≤ 80 := ki1340.1 72 22
                          have kc1384 : ((sm_w1 r61.2 72 26 ((r57.2.1 72 26) ||| (0 : Int32))).1 72 22).toInt = (r61.2.1 72 22).toInt := rfl
                          have kf1385 : Fr wX12_readsHedge m r2.2 := Fr.trans Fr.refl kf12 rfl
                          have kf1386 : Fr wX12_readsHedge m (sm_w1 r2.2 76 ((m.1 72 25)).toNatClampNeg r2.1) := Fr.w kf1385 rfl
                          have kf1387 : Fr wX12_readsHedge m r7.2 := Fr.trans kf1386 kf56 rfl
                          have kf1388 : Fr wX12_readsHedge m (sm_w1 r7.2 77 ((m.1 72 25)).toNatClampNeg r7.1) := Fr.w kf1387 rfl
                          have kf1389 : Fr wX12_readsHedge m r11.2 := Fr.trans kf1388 kf105 rfl
                          have kf1390 : Fr wX12_readsHedge m (sm_w1 r11.2 78 ((m.1 72 25)).toNatClampNeg r11.1) := Fr.w kf1389 rfl
                          have kf1391 : Fr wX12_readsHedge m r15.2 := Fr.trans kf1390 kf157 rfl
                          have kf1392 : Fr wX12_readsHedge m r17.2 := Fr.trans kf1391 kf207 rfl
                          have kf1393 : Fr wX12_readsHedge m (sm_w1 r17.2 79 ((m.1 72 25)).toNatClampNeg r17.1) := Fr.w kf1392 rfl
                          have kf1394 : Fr wX12_readsHedge m r21.2 := Fr.trans kf1393 kf235 rfl
                          have kf1395 : Fr wX12_readsHedge m (sm_w1 r21.2 80 ((m.1 72 25)).toNatClampNeg r21.1) := Fr.w kf1394 rfl
                          have kf1396 : Fr wX12_readsHedge m r25.2 := Fr.trans kf1395 kf285 rfl
                          have kf1397 : Fr wX12_readsHedge m r45.2 := Fr.trans kf1396 kf914 rfl
                          have kf1398 : Fr wX12_readsHedge m (sm_w1 r45.2 81 ((m.1 72 25)).toNatClampNeg r45.1) := Fr.w kf1397 rfl
                          have kf1399 : Fr wX12_readsHedge m r49.2 := Fr.trans kf1398 kf943 rfl
                          have kf1400 : Fr wX12_readsHedge m r57.2 := Fr.trans kf1399 kf1236 rfl
                          have kf1401 : Fr wX12_readsHedge m (sm_w1 r57.2 82 ((m.1 72 25)).toNatClampNeg r57.1) := Fr.w kf1400 rfl
                          have kf1402 : Fr wX12_readsHedge m r61.2 := Fr.trans kf1401 kf1271 rfl
                          have kf1403 : Fr wX12_readsHedge m (sm_w1 r61.2 72 26 ((r57.2.1 72 26) ||| (0 : Int32))) := Fr.w kf1402 rfl
                          have kf1404 : Fr wX12_readsHedge m (sm_w1 (sm_w1 r61.2 72 26 ((r57.2.1 72 26) ||| (0 : Int32))) 83 ((m.1 72 25)).toNatClampNeg (-1 : Int32)) := Fr.w kf1403 rfl
                          have kf1405 : Fr wX12_readsHedge m (sm_w1 (sm_w1 (sm_w1 r61.2 72 26 ((r57.2.1 72 26) ||| (0 : Int32))) 83 ((m.1 72 25)).toNatClampNeg (-1 : Int32)) 72 25 ((r61.2.1 72 25) + (1 : Int32))) := Fr.w kf1404 rfl
                          exact s_ret ⟨(show (0 ≤ (1 : Int32).toInt) ∧ ((1 : Int32).toInt ≤ 1) ∧ ((m.1 72 22).toInt ≤ ((sm_w1 (sm_w1 (sm_w1 r61.2 72 26 ((r57.2.1 72 26) ||| (0 : Int32))) 83 ((m.1 72 25)).toNatClampNeg (-1 : Int32)) 72 25 ((r61.2.1 72 25) + (1 : Int32))).1 72 22).toInt) by omega), ki1343, kf1405⟩
                        · refine s_ix kx41 ?_
                          have kc1406 : 0 ≤ (r57.2.1 72 26).toInt ∧ (r57.2.1 72 26).toInt ≤ 16383 := ki1235.1 72 26
                          have kc1407 : (r57.2.1 72 26).toInt = (r49.2.1 72 26).toInt := congrArg Int32.toInt (kf1236 72 26 rfl)
                          have kc1408 : 0 ≤ (r49.2.1 72 26).toInt ∧ (r49.2.1 72 26).toInt ≤ 16383 := ki942.1 72 26
                          have kc1409 : (r49.2.1 72 26).toInt = ((sm_w1 r45.2 81 ((m.1 72 25)).toNatClampNeg r45.1).1 72 26).toInt := congrArg Int32.toInt (kf943 72 26 rfl)
                          have kc1410 : 0 ≤ ((sm_w1 r45.2 81 ((m.1 72 25)).toNatClampNeg r45.1).1 72 26).toInt ∧ ((sm_w1 r45.2 81 ((m.1 72 25)).toNatClampNeg r45.1).1 72 26).toInt ≤ 16383 := ki935.1 72 26
                          have kc1411 : ((sm_w1 r45.2 81 ((m.1 72 25)).toNatClampNeg r45.1).1 72 26).toInt = (r45.2.1 72 26).toInt := congrArg Int32.toInt (r_cell (by decide))
                          have kc1412 : 0 ≤ (r45.2.1 72 26).toInt ∧ (r45.2.1 72 26).toInt ≤ 16383 := ki913.1 72 26
                          have kc1413 : (r45.2.1 72 26).toInt = (r25.2.1 72 26).toInt := congrArg Int32.toInt (kf914 72 26 rfl)
                          have kc1414 : 0 ≤ (r25.2.1 72 26).toInt ∧ (r25.2.1 72 26).toInt ≤ 16383 := ki284.1 72 26
                          have kc1415 : (r25.2.1 72 26).toInt = ((sm_w1 r21.2 80 ((m.1 72 25)).toNatClampNeg r21.1).1 72 26).toInt := congrArg Int32.toInt (kf285 72 26 rfl)
                          have kc1416 : 0 ≤ ((sm_w1 r21.2 80 ((m.1 72 25)).toNatClampNeg r21.1).1 72 26).toInt ∧ ((sm_w1 r21.2 80 ((m.1 72 25)).toNatClampNeg r21.1).1 72 26).toInt ≤ 16383 := ki277.1 72 26
                          have kc1417 : ((sm_w1 r21.2 80 ((m.1 72 25)).toNatClampNeg r21.1).1 72 26).toInt = (r21.2.1 72 26).toInt := congrArg Int32.toInt (r_cell (by decide))
                          have kc1418 : 0 ≤ (r21.2.1 72 26).toInt ∧ (r21.2.1 72 26).toInt ≤ 16383 := ki234.1 72 26
                          have kc1419 : (r21.2.1 72 26).toInt = ((sm_w1 r17.2 79 ((m.1 72 25)).toNatClampNeg r17.1).1 72 26).toInt := congrArg Int32.toInt (kf235 72 26 rfl)
                          have kc1420 : 0 ≤ ((sm_w1 r17.2 79 ((m.1 72 25)).toNatClampNeg r17.1).1 72 26).toInt ∧ ((sm_w1 r17.2 79 ((m.1 72 25)).toNatClampNeg r17.1).1 72 26).toInt ≤ 16383 := ki228.1 72 26
                          have kc1421 : ((sm_w1 r17.2 79 ((m.1 72 25)).toNatClampNeg r17.1).1 72 26).toInt = (r17.2.1 72 26).toInt := congrArg Int32.toInt (r_cell (by decide))
                          have kc1422 : 0 ≤ (r17.2.1 72 26).toInt ∧ (r17.2.1 72 26).toInt ≤ 16383 := ki206.1 72 26
                          have kc1423 : (r17.2.1 72 26).toInt = (r15.2.1 72 26).toInt := congrArg Int32.toInt (kf207 72 26 rfl)
                          have kc1424 : 0 ≤ (r15.2.1 72 26).toInt ∧ (r15.2.1 72 26).toInt ≤ 16383 := ki156.1 72 26
                          have kc1425 : (r15.2.1 72 26).toInt = ((sm_w1 r11.2 78 ((m.1 72 25)).toNatClampNeg r11.1).1 72 26).toInt := congrArg Int32.toInt (kf157 72 26 rfl)
                          have kc1426 : 0 ≤ ((sm_w1 r11.2 78 ((m.1 72 25)).toNatClampNeg r11.1).1 72 26).toInt ∧ ((sm_w1 r11.2 78 ((m.1 72 25)).toNatClampNeg r11.1).1 72 26).toInt ≤ 16383 := ki135.1 72 26
                          have kc1427 : ((sm_w1 r11.2 78 ((m.1 72 25)).toNatClampNeg r11.1).1 72 26).toInt = (r11.2.1 72 26).toInt := congrArg Int32.toInt (r_cell (by decide))
                          have kc1428 : 0 ≤ (r11.2.1 72 26).toInt ∧ (r11.2.1 72 26).toInt ≤ 16383 := ki104.1 72 26
                          have kc1429 : (r11.2.1 72 26).toInt = ((sm_w1 r7.2 77 ((m.1 72 25)).toNatClampNeg r7.1).1 72 26).toInt := congrArg Int32.toInt (kf105 72 26 rfl)
                          have kc1430 : 0 ≤ ((sm_w1 r7.2 77 ((m.1 72 25)).toNatClampNeg r7.1).1 72 26).toInt ∧ ((sm_w1 r7.2 77 ((m.1 72 25)).toNatClampNeg r7.1).1 72 26).toInt ≤ 16383 := ki90.1 72 26
                          have kc1431 : ((sm_w1 r7.2 77 ((m.1 72 25)).toNatClampNeg r7.1).1 72 26).toInt = (r7.2.1 72 26).toInt := congrArg Int32.toInt (r_cell (by decide))
                          have kc1432 : 0 ≤ (r7.2.1 72 26).toInt ∧ (r7.2.1 72 26).toInt ≤ 16383 := ki55.1 72 26
                          have kc1433 : (r7.2.1 72 26).toInt = ((sm_w1 r2.2 76 ((m.1 72 25)).toNatClampNeg r2.1).1 72 26).toInt := congrArg Int32.toInt (kf56 72 26 rfl)
                          have kc1434 : 0 ≤ ((sm_w1 r2.2 76 ((m.1 72 25)).toNatClampNeg r2.1).1 72 26).toInt ∧ ((sm_w1 r2.2 76 ((m.1 72 25)).toNatClampNeg r2.1).1 72 26).toInt ≤ 16383 := ki43.1 72 26
                          have kc1435 : ((sm_w1 r2.2 76 ((m.1 72 25)).toNatClampNeg r2.1).1 72 26).toInt = (r2.2.1 72 26).toInt := congrArg Int32.toInt (r_cell (by decide))
                          have kc1436 : 0 ≤ (r2.2.1 72 26).toInt ∧ (r2.2.1 72 26).toInt ≤ 16383 := ki11.1 72 26
                          have kc1437 : (r2.2.1 72 26).toInt = (m.1 72 26).toInt := congrArg Int32.toInt (kf12 72 26 rfl)
                          have kc1438 : 0 ≤ (m.1 72 26).toInt ∧ (m.1 72 26).toInt ≤ 16383 := hI.1 72 26
                          have kc1439 := L31
                          have kc1440 : 0 ≤ ((m.1 72 25) &&& (31 : Int32)).toInt ∧ ((m.1 72 25) &&& (31 : Int32)).toInt ≤ ((31 : Int32)).toInt := a_andr (by omega)
                          have kc1441 : 0 ≤ ((m.1 72 25) &&& (31 : Int32)).toInt ∧ ((m.1 72 25) &&& (31 : Int32)).toInt ≤ ((m.1 72 25)).toInt := a_andl (by omega)
                          have kc1442 : 1 ≤ ((1 : Int32) <<< ((m.1 72 25) &&& (31 : Int32))).toInt ∧ ((1 : Int32) <<< ((m.1 72 25) &&& (31 : Int32))).toInt ≤ 8192 := a_shl 13 (by decide) (by decide) (by omega) (by omega)
                          have kc1443 : 0 ≤ ((r57.2.1 72 26) ||| ((1 : Int32) <<< ((m.1 72 25) &&& (31 : Int32)))).toInt ∧ ((r57.2.1 72 26) ||| ((1 : Int32) <<< ((m.1 72 25) &&& (31 : Int32)))).toInt < 16384 := a_or 14 (by decide) (by decide) (by omega) (by omega) (by omega) (by omega)
                          have ki1444 : zI (sm_w1 r61.2 72 26 ((r57.2.1 72 26) ||| ((1 : Int32) <<< ((m.1 72 25) &&& (31 : Int32))))) := zI.w ki1270 rfl (show 0 ≤ (((r57.2.1 72 26) ||| ((1 : Int32) <<< ((m.1 72 25) &&& (31 : Int32))))).toInt ∧ (((r57.2.1 72 26) ||| ((1 : Int32) <<< ((m.1 72 25) &&& (31 : Int32))))).toInt ≤ 16383 by omega)
                          have ki1445 : zI (sm_w1 (sm_w1 r61.2 72 26 ((r57.2.1 72 26) ||| ((1 : Int32) <<< ((m.1 72 25) &&& (31 : Int32))))) 83 ((m.1 72 25)).toNatClampNeg (-1 : Int32)) := zI.w ki1444 rfl (rg _)
                          have kc1446 : ((r61.2.1 72 25) + (1 : Int32)).toInt = ((r61.2.1 72 25)).toInt + 1 := a_addl L1 (by omega) (by omega)
                          have kc1448 : 0 ≤ ((sm_w1 (sm_w1 r61.2 72 26 ((r57.2.1 72 26) ||| ((1 : Int32) <<< ((m.1 72 25) &&& (31 : Int32))))) 83 ((m.1 72 25)).toNatClampNeg (-1 : Int32)).1 72 6).toInt ∧ ((sm_w1 (sm_w1 r61.2 72 26 ((r57.2.1 72 26) ||| ((1 : Int32) <<< ((m.1 72 25) &&& (31 : Int32))))) 83 ((m.1 72 25)).toNatClampNeg (-1 : Int32)).1 72 6).toInt ≤ 14 := ki1445.1 72 6
                          have kc1449 : 0 ≤ ((sm_w1 (sm_w1 r61.2 72 26 ((r57.2.1 72 26) ||| ((1 : Int32) <<< ((m.1 72 25) &&& (31 : Int32))))) 83 ((m.1 72 25)).toNatClampNeg (-1 : Int32)).1 72 25).toInt ∧ ((sm_w1 (sm_w1 r61.2 72 26 ((r57.2.1 72 26) ||| ((1 : Int32) <<< ((m.1 72 25) &&& (31 : Int32))))) 83 ((m.1 72 25)).toNatClampNeg (-1 : Int32)).1 72 25).toInt ≤ 14 := ki1445.1 72 25
                          have kc1450 := zI.le ki1445
                          have kc1451 : ((sm_w1 (sm_w1 r61.2 72 26 ((r57.2.1 72 26) ||| ((1 : Int32) <<< ((m.1 72 25) &&& (31 : Int32))))) 83 ((m.1 72 25)).toNatClampNeg (-1 : Int32)).1 72 25).toInt = ((sm_w1 r61.2 72 26 ((r57.2.1 72 26) ||| ((1 : Int32) <<< ((m.1 72 25) &&& (31 : Int32))))).1 72 25).toInt := congrArg Int32.toInt (r_cell (by decide))
                          have kc1452 : 0 ≤ ((sm_w1 r61.2 72 26 ((r57.2.1 72 26) ||| ((1 : Int32) <<< ((m.1 72 25) &&& (31 : Int32))))).1 72 25).toInt ∧ ((sm_w1 r61.2 72 26 ((r57.2.1 72 26) ||| ((1 : Int32) <<< ((m.1 72 25) &&& (31 : Int32))))).1 72 25).toInt ≤ 14 := ki1444.1 72 25
                          have kc1453 : 0 ≤ ((sm_w1 r61.2 72 26 ((r57.2.1 72 26) ||| ((1 : Int32) <<< ((m.1 72 25) &&& (31 : Int32))))).1 72 6).toInt ∧ ((sm_w1 r61.2 72 26 ((r57.2.1 72 26) ||| ((1 : Int32) <<< ((m.1 72 25) &&& (31 : Int32))))).1 72 6).toInt ≤ 14 := ki1444.1 72 6
                          have kc1454 := zI.le ki1444
                          have kc1455 : ((sm_w1 r61.2 72 26 ((r57.2.1 72 26) ||| ((1 : Int32) <<< ((m.1 72 25) &&& (31 : Int32))))).1 72 6).toInt = (r61.2.1 72 6).toInt := rfl
                          have kc1456 : ((sm_w1 r61.2 72 26 ((r57.2.1 72 26) ||| ((1 : Int32) <<< ((m.1 72 25) &&& (31 : Int32))))).1 72 25).toInt = (r61.2.1 72 25).toInt := rfl
                          have kc1457 : ((sm_w1 (sm_w1 r61.2 72 26 ((r57.2.1 72 26) ||| ((1 : Int32) <<< ((m.1 72 25) &&& (31 : Int32))))) 83 ((m.1 72 25)).toNatClampNeg (-1 : Int32)).1 72 6).toInt = ((sm_w1 r61.2 72 26 ((r57.2.1 72 26) ||| ((1 : Int32) <<< ((m.1 72 25) &&& (31 : Int32))))).1 72 6).toInt := congrArg Int32.toInt (r_cell (by decide))
                          have kc1458 := a_tn (show 0 ≤ (m.1 72 25).toInt by omega)
                          have kc1459 : (-1 : Int) ≤ ((sm_w1 (sm_w1 r61.2 72 26 ((r57.2.1 72 26) ||| ((1 : Int32) <<< ((m.1 72 25) &&& (31 : Int32))))) 83 ((m.1 72 25)).toNatClampNeg (-1 : Int32)).1 76 ((m.1 72 25)).toNatClampNeg).toInt ∧ ((sm_w1 (sm_w1 r61.2 72 26 ((r57.2.1 72 26) ||| ((1 : Int32) <<< ((m.1 72 25) &&& (31 : Int32))))) 83 ((m.1 72 25)).toNatClampNeg (-1 : Int32)).1 76 ((m.1 72 25)).toNatClampNeg).toInt ≤ 9 := ki1445.1 76 ((m.1 72 25)).toNatClampNeg
                          have kc1460 := zI.pf76 ki1445 (m.1 72 25)
                          have kc1461 : ((sm_w1 (sm_w1 r61.2 72 26 ((r57.2.1 72 26) ||| ((1 : Int32) <<< ((m.1 72 25) &&& (31 : Int32))))) 83 ((m.1 72 25)).toNatClampNeg (-1 : Int32)).1 76 ((m.1 72 25)).toNatClampNeg).toInt = ((sm_w1 r61.2 72 26 ((r57.2.1 72 26) ||| ((1 : Int32) <<< ((m.1 72 25) &&& (31 : Int32))))).1 76 ((m.1 72 25)).toNatClampNeg).toInt := congrArg Int32.toInt (r_cell (by decide))
                          have kc1462 : (-1 : Int) ≤ ((sm_w1 r61.2 72 26 ((r57.2.1 72 26) ||| ((1 : Int32) <<< ((m.1 72 25) &&& (31 : Int32))))).1 76 ((m.1 72 25)).toNatClampNeg).toInt ∧ ((sm_w1 r61.2 72 26 ((r57.2.1 72 26) ||| ((1 : Int32) <<< ((m.1 72 25) &&& (31 : Int32))))).1 76 ((m.1 72 25)).toNatClampNeg).toInt ≤ 9 := ki1444.1 76 ((m.1 72 25)).toNatClampNeg
                          have kc1463 := zI.pf76 ki1444 (m.1 72 25)
                          have kc1464 : ((sm_w1 r61.2 72 26 ((r57.2.1 72 26) ||| ((1 : Int32) <<< ((m.1 72 25) &&& (31 : Int32))))).1 76 ((m.1 72 25)).toNatClampNeg).toInt = (r61.2.1 76 ((m.1 72 25)).toNatClampNeg).toInt := congrArg Int32.toInt (r_cell (by decide))
                          have kc1465 : (-1 : Int) ≤ ((sm_w1 (sm_w1 r61.2 72 26 ((r57.2.1 72 26) ||| ((1 : Int32) <<< ((m.1 72 25) &&& (31 : Int32))))) 83 ((m.1 72 25)).toNatClampNeg (-1 : Int32)).1 77 ((m.1 72 25)).toNatClampNeg).toInt ∧ ((sm_w1 (sm_w1 r61.2 72 26 ((r57.2.1 72 26) ||| ((1 : Int32) <<< ((m.1 72 25) &&& (31 : Int32))))) 83 ((m.1 72 25)).toNatClampNeg (-1 : Int32)).1 77 ((m.1 72 25)).toNatClampNeg).toInt ≤ 9 := ki1445.1 77 ((m.1 72 25)).toNatClampNeg
                          have kc1466 := zI.pf77 ki1445 (m.1 72 25)
                          have kc1467 : ((sm_w1 (sm_w1 r61.2 72 26 ((r57.2.1 72 26) ||| ((1 : Int32) <<< ((m.1 72 25) &&& (31 : Int32))))) 83 ((m.1 72 25)).toNatClampNeg (-1 : Int32)).1 77 ((m.1 72 25)).toNatClampNeg).toInt = ((sm_w1 r61.2 72 26 ((r57.2.1 72 26) ||| ((1 : Int32) <<< ((m.1 72 25) &&& (31 : Int32))))).1 77 ((m.1 72 25)).toNatClampNeg).toInt := congrArg Int32.toInt (r_cell (by decide))
                          have kc1468 : (-1 : Int) ≤ ((sm_w1 r61.2 72 26 ((r57.2.1 72 26) ||| ((1 : Int32) <<< ((m.1 72 25) &&& (31 : Int32))))).1 77 ((m.1 72 25)).toNatClampNeg).toInt ∧ ((sm_w1 r61.2 72 26 ((r57.2.1 72 26) ||| ((1 : Int32) <<< ((m.1 72 25) &&& (31 : Int32))))).1 77 ((m.1 72 25)).toNatClampNeg).toInt ≤ 9 := ki1444.1 77 ((m.1 72 25)).toNatClampNeg
                          have kc1469 := zI.pf77 ki1444 (m.1 72 25)
                          have kc1470 : ((sm_w1 r61.2 72 26 ((r57.2.1 72 26) ||| ((1 : Int32) <<< ((m.1 72 25) &&& (31 : Int32))))).1 77 ((m.1 72 25)).toNatClampNeg).toInt = (r61.2.1 77 ((m.1 72 25)).toNatClampNeg).toInt := congrArg Int32.toInt (r_cell (by decide))
                          have kc1471 : (-1 : Int) ≤ ((sm_w1 (sm_w1 r61.2 72 26 ((r57.2.1 72 26) ||| ((1 : Int32) <<< ((m.1 72 25) &&& (31 : Int32))))) 83 ((m.1 72 25)).toNatClampNeg (-1 : Int32)).1 78 ((m.1 72 25)).toNatClampNeg).toInt ∧ ((sm_w1 (sm_w1 r61.2 72 26 ((r57.2.1 72 26) ||| ((1 : Int32) <<< ((m.1 72 25) &&& (31 : Int32))))) 83 ((m.1 72 25)).toNatClampNeg (-1 : Int32)).1 78 ((m.1 72 25)).toNatClampNeg).toInt ≤ 20 := ki1445.1 78 ((m.1 72 25)).toNatClampNeg
                          have kc1472 := zI.pf78 ki1445 (m.1 72 25)
                          have kc1473 : ((sm_w1 (sm_w1 r61.2 72 26 ((r57.2.1 72 26) ||| ((1 : Int32) <<< ((m.1 72 25) &&& (31 : Int32))))) 83 ((m.1 72 25)).toNatClampNeg (-1 : Int32)).1 78 ((m.1 72 25)).toNatClampNeg).toInt = ((sm_w1 r61.2 72 26 ((r57.2.1 72 26) ||| ((1 : Int32) <<< ((m.1 72 25) &&& (31 : Int32))))).1 78 ((m.1 72 25)).toNatClampNeg).toInt := congrArg Int32.toInt (r_cell (by decide))
                          have kc1474 : (-1 : Int) ≤ ((sm_w1 r61.2 72 26 ((r57.2.1 72 26) ||| ((1 : Int32) <<< ((m.1 72 25) &&& (31 : Int32))))).1 78 ((m.1 72 25)).toNatClampNeg).toInt ∧ ((sm_w1 r61.2 72 26 ((r57.2.1 72 26) ||| ((1 : Int32) <<< ((m.1 72 25) &&& (31 : Int32))))).1 78 ((m.1 72 25)).toNatClampNeg).toInt ≤ 20 := ki1444.1 78 ((m.1 72 25)).toNatClampNeg
                          have kc1475 := zI.pf78 ki1444 (m.1 72 25)
                          have kc1476 : ((sm_w1 r61.2 72 26 ((r57.2.1 72 26) ||| ((1 : Int32) <<< ((m.1 72 25) &&& (31 : Int32))))).1 78 ((m.1 72 25)).toNatClampNeg).toInt = (r61.2.1 78 ((m.1 72 25)).toNatClampNeg).toInt := congrArg Int32.toInt (r_cell (by decide))
                          have kc1477 : (-1 : Int) ≤ ((sm_w1 (sm_w1 r61.2 72 26 ((r57.2.1 72 26) ||| ((1 : Int32) <<< ((m.1 72 25) &&& (31 : Int32))))) 83 ((m.1 72 25)).toNatClampNeg (-1 : Int32)).1 82 ((m.1 72 25)).toNatClampNeg).toInt ∧ ((sm_w1 (sm_w1 r61.2 72 26 ((r57.2.1 72 26) ||| ((1 : Int32) <<< ((m.1 72 25) &&& (31 : Int32))))) 83 ((m.1 72 25)).toNatClampNeg (-1 : Int32)).1 82 ((m.1 72 25)).toNatClampNeg).toInt ≤ 9 := ki1445.1 82 ((m.1 72 25)).toNatClampNeg
                          have kc1478 := zI.pf82 ki1445 (m.1 72 25)
                          have kc1479 : ((sm_w1 (sm_w1 r61.2 72 26 ((r57.2.1 72 26) ||| ((1 : Int32) <<< ((m.1 72 25) &&& (31 : Int32))))) 83 ((m.1 72 25)).toNatClampNeg (-1 : Int32)).1 82 ((m.1 72 25)).toNatClampNeg).toInt = ((sm_w1 r61.2 72 26 ((r57.2.1 72 26) ||| ((1 : Int32) <<< ((m.1 72 25) &&& (31 : Int32))))).1 82 ((m.1 72 25)).toNatClampNeg).toInt := congrArg Int32.toInt (r_cell (by decide))
                          have kc1480 : (-1 : Int) ≤ ((sm_w1 r61.2 72 26 ((r57.2.1 72 26) ||| ((1 : Int32) <<< ((m.1 72 25) &&& (31 : Int32))))).1 82 ((m.1 72 25)).toNatClampNeg).toInt ∧ ((sm_w1 r61.2 72 26 ((r57.2.1 72 26) ||| ((1 : Int32) <<< ((m.1 72 25) &&& (31 : Int32))))).1 82 ((m.1 72 25)).toNatClampNeg).toInt ≤ 9 := ki1444.1 82 ((m.1 72 25)).toNatClampNeg
                          have kc1481 := zI.pf82 ki1444 (m.1 72 25)
                          have kc1482 : ((sm_w1 r61.2 72 26 ((r57.2.1 72 26) ||| ((1 : Int32) <<< ((m.1 72 25) &&& (31 : Int32))))).1 82 ((m.1 72 25)).toNatClampNeg).toInt = (r61.2.1 82 ((m.1 72 25)).toNatClampNeg).toInt := congrArg Int32.toInt (r_cell (by decide))
                          have ki1447 : zI (sm_w1 (sm_w1 (sm_w1 r61.2 72 26 ((r57.2.1 72 26) ||| ((1 : Int32) <<< ((m.1 72 25) &&& (31 : Int32))))) 83 ((m.1 72 25)).toNatClampNeg (-1 : Int32)) 72 25 ((r61.2.1 72 25) + (1 : Int32))) := zI.w25b ((m.1 72 25)).toNatClampNeg ki1445 (show 0 ≤ (((r61.2.1 72 25) + (1 : Int32))).toInt ∧ (((r61.2.1 72 25) + (1 : Int32))).toInt ≤ 14 by omega) (show (((r61.2.1 72 25) + (1 : Int32))).toInt = ((sm_w1 (sm_w1 r61.2 72 26 ((r57.2.1 72 26) ||| ((1 : Int32) <<< ((m.1 72 25) &&& (31 : Int32))))) 83 ((m.1 72 25)).toNatClampNeg (-1 : Int32)).1 72 25).toInt + 1 by omega) (show ((((m.1 72 25)).toNatClampNeg : Nat) : Int) = ((sm_w1 (sm_w1 r61.2 72 26 ((r57.2.1 72 26) ||| ((1 : Int32) <<< ((m.1 72 25) &&& (31 : Int32))))) 83 ((m.1 72 25)).toNatClampNeg (-1 : Int32)).1 72 25).toInt by omega) (show 0 ≤ ((sm_w1 (sm_w1 r61.2 72 26 ((r57.2.1 72 26) ||| ((1 : Int32) <<< ((m.1 72 25) &&& (31 : Int32))))) 83 ((m.1 72 25)).toNatClampNeg (-1 : Int32)).1 76 ((m.1 72 25)).toNatClampNeg).toInt by omega) (show 0 ≤ ((sm_w1 (sm_w1 r61.2 72 26 ((r57.2.1 72 26) ||| ((1 : Int32) <<< ((m.1 72 25) &&& (31 : Int32))))) 83 ((m.1 72 25)).toNatClampNeg (-1 : Int32)).1 77 ((m.1 72 25)).toNatClampNeg).toInt by omega) (show 1 ≤ ((sm_w1 (sm_w1 r61.2 72 26 ((r57.2.1 72 26) ||| ((1 : Int32) <<< ((m.1 72 25) &&& (31 : Int32))))) 83 ((m.1 72 25)).toNatClampNeg (-1 : Int32)).1 78 ((m.1 72 25)).toNatClampNeg).toInt by omega) (show 0 ≤ ((sm_w1 (sm_w1 r61.2 72 26 ((r57.2.1 72 26) ||| ((1 : Int32) <<< ((m.1 72 25) &&& (31 : Int32))))) 83 ((m.1 72 25)).toNatClampNeg (-1 : Int32)).1 82 ((m.1 72 25)).toNatClampNeg).toInt by omega)
                          have kc1483 : 0 ≤ ((sm_w1 (sm_w1 (sm_w1 r61.2 72 26 ((r57.2.1 72 26) ||| ((1 : Int32) <<< ((m.1 72 25) &&& (31 : Int32))))) 83 ((m.1 72 25)).toNatClampNeg (-1 : Int32)) 72 25 ((r61.2.1 72 25) + (1 : Int32))).1 72 22).toInt ∧ ((sm_w1 (sm_w1 (sm_w1 r61.2 72 26 ((r57.2.1 72 26) ||| ((1 : Int32) <<< ((m.1 72 25) &&& (31 : Int32))))) 83 ((m.1 72 25)).toNatClampNeg (-1 : Int32)) 72 25 ((r61.2.1 72 25) + (1 : Int32))).1 72 22).toInt ≤ 80 := ki1447.1 72 22
                          have kc1484 : ((sm_w1 (sm_w1 (sm_w1 r61.2 72 26 ((r57.2.1 72 26) ||| ((1 : Int32) <<< ((m.1 72 25) &&& (31 : Int32))))) 83 ((m.1 72 25)).toNatClampNeg (-1 : Int32)) 72 25 ((r61.2.1 72 25) + (1 : Int32))).1 72 22).toInt = ((sm_w1 (sm_w1 r61.2 72 26 ((r57.2.1 72 26) ||| ((1 : Int32) <<< ((m.1 72 25) &&& (31 : Int32))))) 83 ((m.1 72 25)).toNatClampNeg (-1 : Int32)).1 72 22).toInt := rfl
                          have kc1485 : 0 ≤ ((sm_w1 (sm_w1 r61.2 72 26 ((r57.2.1 72 26) ||| ((1 : Int32) <<< ((m.1 72 25) &&& (31 : Int32))))) 83 ((m.1 72 25)).toNatClampNeg (-1 : Int32)).1 72 22).toInt ∧ ((sm_w1 (sm_w1 r61.2 72 26 ((r57.2.1 72 26) ||| ((1 : Int32) <<< ((m.1 72 25) &&& (31 : Int32))))) 83 ((m.1 72 25)).toNatClampNeg (-1 : Int32)).1 72 22).toInt ≤ 80 := ki1445.1 72 22
                          have kc1486 : ((sm_w1 (sm_w1 r61.2 72 26 ((r57.2.1 72 26) ||| ((1 : Int32) <<< ((m.1 72 25) &&& (31 : Int32))))) 83 ((m.1 72 25)).toNatClampNeg (-1 : Int32)).1 72 22).toInt = ((sm_w1 r61.2 72 26 ((r57.2.1 72 26) ||| ((1 : Int32) <<< ((m.1 72 25) &&& (31 : Int32))))).1 72 22).toInt := congrArg Int32.toInt (r_cell (by decide))
                          have kc1487 : 0 ≤ ((sm_w1 r61.2 72 26 ((r57.2.1 72 26) ||| ((1 : Int32) <<< ((m.1 72 25) &&& (31 : Int32))))).1 72 22).toInt ∧ ((sm_w1 r61.2 72 26 ((r57.2.1 72 26) ||| ((1 : Int32) <<< ((m.1 72 25) &&& (31 : Int32))))).1 72 22).toInt ≤ 80 := ki1444.1 72 22
                          have kc1488 : ((sm_w1 r61.2 72 26 ((r57.2.1 72 26) ||| ((1 : Int32) <<< ((m.1 72 25) &&& (31 : Int32))))).1 72 22).toInt = (r61.2.1 72 22).toInt := rfl
                          have kf1489 : Fr wX12_readsHedge m r2.2 := Fr.trans Fr.refl kf12 rfl
                          have kf1490 : Fr wX12_readsHedge m (sm_w1 r2.2 76 ((m.1 72 25)).toNatClampNeg r2.1) := Fr.w kf1489 rfl
                          have kf1491 : Fr wX12_readsHedge m r7.2 := Fr.trans kf1490 kf56 rfl
                          have kf1492 : Fr wX12_readsHedge m (sm_w1 r7.2 77 ((m.1 72 25)).toNatClampNeg r7.1) := Fr.w kf1491 rfl
                          have kf1493 : Fr wX12_readsHedge m r11.2 := Fr.trans kf1492 kf105 rfl
                          have kf1494 : Fr wX12_readsHedge m (sm_w1 r11.2 78 ((m.1 72 25)).toNatClampNeg r11.1) := Fr.w kf1493 rfl
                          have kf1495 : Fr wX12_readsHedge m r15.2 := Fr.trans kf1494 kf157 rfl
                          have kf1496 : Fr wX12_readsHedge m r17.2 := Fr.trans kf1495 kf207 rfl
                          have kf1497 : Fr wX12_readsHedge m (sm_w1 r17.2 79 ((m.1 72 25)).toNatClampNeg r17.1) := Fr.w kf1496 rfl
                          have kf1498 : Fr wX12_readsHedge m r21.2 := Fr.trans kf1497 kf235 rfl
                          have kf1499 : Fr wX12_readsHedge m (sm_w1 r21.2 80 ((m.1 72 25)).toNatClampNeg r21.1) := Fr.w kf1498 rfl
                          have kf1500 : Fr wX12_readsHedge m r25.2 := Fr.trans kf1499 kf285 rfl
                          have kf1501 : Fr wX12_readsHedge m r45.2 := Fr.trans kf1500 kf914 rfl
                          have kf1502 : Fr wX12_readsHedge m (sm_w1 r45.2 81 ((m.1 72 25)).toNatClampNeg r45.1) := Fr.w kf1501 rfl
                          have kf1503 : Fr wX12_readsHedge m r49.2 := Fr.trans kf1502 kf943 rfl
                          have kf1504 : Fr wX12_readsHedge m r57.2 := Fr.trans kf1503 kf1236 rfl
                          have kf1505 : Fr wX12_readsHedge m (sm_w1 r57.2 82 ((m.1 72 25)).toNatClampNeg r57.1) := Fr.w kf1504 rfl
                          have kf1506 : Fr wX12_readsHedge m r61.2 := Fr.trans kf1505 kf1271 rfl
                          have kf1507 : Fr wX12_readsHedge m (sm_w1 r61.2 72 26 ((r57.2.1 72 26) ||| ((1 : Int32) <<< ((m.1 72 25) &&& (31 : Int32))))) := Fr.w kf1506 rfl
                          have kf1508 : Fr wX12_readsHedge m (sm_w1 (sm_w1 r61.2 72 26 ((r57.2.1 72 26) ||| ((1 : Int32) <<< ((m.1 72 25) &&& (31 : Int32))))) 83 ((m.1 72 25)).toNatClampNeg (-1 : Int32)) := Fr.w kf1507 rfl
                          have kf1509 : Fr wX12_readsHedge m (sm_w1 (sm_w1 (sm_w1 r61.2 72 26 ((r57.2.1 72 26) ||| ((1 : Int32) <<< ((m.1 72 25) &&& (31 : Int32))))) 83 ((m.1 72 25)).toNatClampNeg (-1 : Int32)) 72 25 ((r61.2.1 72 25) + (1 : Int32))) := Fr.w kf1508 rfl
                          exact s_ret ⟨(show (0 ≤ (1 : Int32).toInt) ∧ ((1 : Int32).toInt ≤ 1) ∧ ((m.1 72 22).toInt ≤ ((sm_w1 (sm_w1 (sm_w1 r61.2 72 26 ((r57.2.1 72 26) ||| ((1 : Int32) <<< ((m.1 72 25) &&& (31 : Int32))))) 83 ((m.1 72 25)).toNatClampNeg (-1 : Int32)) 72 25 ((r61.2.1 72 25) + (1 : Int32))).1 72 22).toInt) by omega), ki1447, kf1509⟩
                      · have kc1510 : 0 ≤ ((sm_w1 r57.2 82 ((m.1 72 25)).toNatClampNeg r57.1).1 72 22).toInt ∧ ((sm_w1 r57.2 82 ((m.1 72 25)).toNatClampNeg r57.1).1 72 22).toInt ≤ 80 := ki1257.1 72 22
                        have kc1511 : ((sm_w1 r57.2 82 ((m.1 72 25)).toNatClampNeg r57.1).1 72 22).toInt = (r57.2.1 72 22).toInt := congrArg Int32.toInt (r_cell (by decide))
                        have kf1512 : Fr wX12_readsHedge m r2.2 := Fr.trans Fr.refl kf12 rfl
                        have kf1513 : Fr wX12_readsHedge m (sm_w1 r2.2 76 ((m.1 72 25)).toNatClampNeg r2.1) := Fr.w kf1512 rfl
                        have kf1514 : Fr wX12_readsHedge m r7.2 := Fr.trans kf1513 kf56 rfl
                        have kf1515 : Fr wX12_readsHedge m (sm_w1 r7.2 77 ((m.1 72 25)).toNatClampNeg r7.1) := Fr.w kf1514 rfl
                        have kf1516 : Fr wX12_readsHedge m r11.2 := Fr.trans kf1515 kf105 rfl
                        have kf1517 : Fr wX12_readsHedge m (sm_w1 r11.2 78 ((m.1 72 25)).toNatClampNeg r11.1) := Fr.w kf1516 rfl
                        have kf1518 : Fr wX12_readsHedge m r15.2 := Fr.trans kf1517 kf157 rfl
                        have kf1519 : Fr wX12_readsHedge m r17.2 := Fr.trans kf1518 kf207 rfl
                        have kf1520 : Fr wX12_readsHedge m (sm_w1 r17.2 79 ((m.1 72 25)).toNatClampNeg r17.1) := Fr.w kf1519 rfl
                        have kf1521 : Fr wX12_readsHedge m r21.2 := Fr.trans kf1520 kf235 rfl
                        have kf1522 : Fr wX12_readsHedge m (sm_w1 r21.2 80 ((m.1 72 25)).toNatClampNeg r21.1) := Fr.w kf1521 rfl
                        have kf1523 : Fr wX12_readsHedge m r25.2 := Fr.trans kf1522 kf285 rfl
                        have kf1524 : Fr wX12_readsHedge m r45.2 := Fr.trans kf1523 kf914 rfl
                        have kf1525 : Fr wX12_readsHedge m (sm_w1 r45.2 81 ((m.1 72 25)).toNatClampNeg r45.1) := Fr.w kf1524 rfl
                        have kf1526 : Fr wX12_readsHedge m r49.2 := Fr.trans kf1525 kf943 rfl
                        have kf1527 : Fr wX12_readsHedge m r57.2 := Fr.trans kf1526 kf1236 rfl
                        have kf1528 : Fr wX12_readsHedge m (sm_w1 r57.2 82 ((m.1 72 25)).toNatClampNeg r57.1) := Fr.w kf1527 rfl
                        exact s_ret ⟨(show (0 ≤ (0 : Int32).toInt) ∧ ((0 : Int32).toInt ≤ 1) ∧ ((m.1 72 22).toInt ≤ ((sm_w1 r57.2 82 ((m.1 72 25)).toNatClampNeg r57.1).1 72 22).toInt) by omega), ki1257, kf1528⟩
                  · have kc1529 : 0 ≤ ((sm_w1 r45.2 81 ((m.1 72 25)).toNatClampNeg r45.1).1 72 22).toInt ∧ ((sm_w1 r45.2 81 ((m.1 72 25)).toNatClampNeg r45.1).1 72 22).toInt ≤ 80 := ki935.1 72 22
                    have kc1530 : ((sm_w1 r45.2 81 ((m.1 72 25)).toNatClampNeg r45.1).1 72 22).toInt = (r45.2.1 72 22).toInt := congrArg Int32.toInt (r_cell (by decide))
                    have kf1531 : Fr wX12_readsHedge m r2.2 := Fr.trans Fr.refl kf12 rfl
                    have kf1532 : Fr wX12_readsHedge m (sm_w1 r2.2 76 ((m.1 72 25)).toNatClampNeg r2.1) := Fr.w kf1531 rfl
                    have kf1533 : Fr wX12_readsHedge m r7.2 := Fr.trans kf1532 kf56 rfl
                    have kf1534 : Fr wX12_readsHedge m (sm_w1 r7.2 77 ((m.1 72 25)).toNatClampNeg r7.1) := Fr.w kf1533 rfl
                    have kf1535 : Fr wX12_readsHedge m r11.2 := Fr.trans kf1534 kf105 rfl
                    have kf1536 : Fr wX12_readsHedge m (sm_w1 r11.2 78 ((m.1 72 25)).toNatClampNeg r11.1) := Fr.w kf1535 rfl
                    have kf1537 : Fr wX12_readsHedge m r15.2 := Fr.trans kf1536 kf157 rfl
                    have kf1538 : Fr wX12_readsHedge m r17.2 := Fr.trans kf1537 kf207 rfl
                    have kf1539 : Fr wX12_readsHedge m (sm_w1 r17.2 79 ((m.1 72 25)).toNatClampNeg r17.1) := Fr.w kf1538 rfl
                    have kf1540 : Fr wX12_readsHedge m r21.2 := Fr.trans kf1539 kf235 rfl
                    have kf1541 : Fr wX12_readsHedge m (sm_w1 r21.2 80 ((m.1 72 25)).toNatClampNeg r21.1) := Fr.w kf1540 rfl
                    have kf1542 : Fr wX12_readsHedge m r25.2 := Fr.trans kf1541 kf285 rfl
                    have kf1543 : Fr wX12_readsHedge m r45.2 := Fr.trans kf1542 kf914 rfl
                    have kf1544 : Fr wX12_readsHedge m (sm_w1 r45.2 81 ((m.1 72 25)).toNatClampNeg r45.1) := Fr.w kf1543 rfl
                    exact s_ret ⟨(show (0 ≤ (0 : Int32).toInt) ∧ ((0 : Int32).toInt ≤ 1) ∧ ((m.1 72 22).toInt ≤ ((sm_w1 r45.2 81 ((m.1 72 25)).toNatClampNeg r45.1).1 72 22).toInt) by omega), ki935, kf1544⟩
              · have kc1545 : 0 ≤ ((sm_w1 r21.2 80 ((m.1 72 25)).toNatClampNeg r21.1).1 72 22).toInt ∧ ((sm_w1 r21.2 80 ((m.1 72 25)).toNatClampNeg r21.1).1 72 22).toInt ≤ 80 := ki277.1 72 22
                have kc1546 : ((sm_w1 r21.2 80 ((m.1 72 25)).toNatClampNeg r21.1).1 72 22).toInt = (r21.2.1 72 22).toInt := congrArg Int32.toInt (r_cell (by decide))
                have kf1547 : Fr wX12_readsHedge m r2.2 := Fr.trans Fr.refl kf12 rfl
                have kf1548 : Fr wX12_readsHedge m (sm_w1 r2.2 76 ((m.1 72 25)).toNatClampNeg r2.1) := Fr.w kf1547 rfl
                have kf1549 : Fr wX12_readsHedge m r7.2 := Fr.trans kf1548 kf56 rfl
                have kf1550 : Fr wX12_readsHedge m (sm_w1 r7.2 77 ((m.1 72 25)).toNatClampNeg r7.1) := Fr.w kf1549 rfl
                have kf1551 : Fr wX12_readsHedge m r11.2 := Fr.trans kf1550 kf105 rfl
                have kf1552 : Fr wX12_readsHedge m (sm_w1 r11.2 78 ((m.1 72 25)).toNatClampNeg r11.1) := Fr.w kf1551 rfl
                have kf1553 : Fr wX12_readsHedge m r15.2 := Fr.trans kf1552 kf157 rfl
                have kf1554 : Fr wX12_readsHedge m r17.2 := Fr.trans kf1553 kf207 rfl
                have kf1555 : Fr wX12_readsHedge m (sm_w1 r17.2 79 ((m.1 72 25)).toNatClampNeg r17.1) := Fr.w kf1554 rfl
                have kf1556 : Fr wX12_readsHedge m r21.2 := Fr.trans kf1555 kf235 rfl
                have kf1557 : Fr wX12_readsHedge m (sm_w1 r21.2 80 ((m.1 72 25)).toNatClampNeg r21.1) := Fr.w kf1556 rfl
                exact s_ret ⟨(show (0 ≤ (0 : Int32).toInt) ∧ ((0 : Int32).toInt ≤ 1) ∧ ((m.1 72 22).toInt ≤ ((sm_w1 r21.2 80 ((m.1 72 25)).toNatClampNeg r21.1).1 72 22).toInt) by omega), ki277, kf1557⟩
            · have kc1558 : 0 ≤ ((sm_w1 r17.2 79 ((m.1 72 25)).toNatClampNeg r17.1).1 72 22).toInt ∧ ((sm_w1 r17.2 79 ((m.1 72 25)).toNatClampNeg r17.1).1 72 22).toInt ≤ 80 := ki228.1 72 22
              have kc1559 : ((sm_w1 r17.2 79 ((m.1 72 25)).toNatClampNeg r17.1).1 72 22).toInt = (r17.2.1 72 22).toInt := congrArg Int32.toInt (r_cell (by decide))
              have kf1560 : Fr wX12_readsHedge m r2.2 := Fr.trans Fr.refl kf12 rfl
              have kf1561 : Fr wX12_readsHedge m (sm_w1 r2.2 76 ((m.1 72 25)).toNatClampNeg r2.1) := Fr.w kf1560 rfl
              have kf1562 : Fr wX12_readsHedge m r7.2 := Fr.trans kf1561 kf56 rfl
              have kf1563 : Fr wX12_readsHedge m (sm_w1 r7.2 77 ((m.1 72 25)).toNatClampNeg r7.1) := Fr.w kf1562 rfl
              have kf1564 : Fr wX12_readsHedge m r11.2 := Fr.trans kf1563 kf105 rfl
              have kf1565 : Fr wX12_readsHedge m (sm_w1 r11.2 78 ((m.1 72 25)).toNatClampNeg r11.1) := Fr.w kf1564 rfl
              have kf1566 : Fr wX12_readsHedge m r15.2 := Fr.trans kf1565 kf157 rfl
              have kf1567 : Fr wX12_readsHedge m r17.2 := Fr.trans kf1566 kf207 rfl
              have kf1568 : Fr wX12_readsHedge m (sm_w1 r17.2 79 ((m.1 72 25)).toNatClampNeg r17.1) := Fr.w kf1567 rfl
              exact s_ret ⟨(show (0 ≤ (0 : Int32).toInt) ∧ ((0 : Int32).toInt ≤ 1) ∧ ((m.1 72 22).toInt ≤ ((sm_w1 r17.2 79 ((m.1 72 25)).toNatClampNeg r17.1).1 72 22).toInt) by omega), ki228, kf1568⟩
      · have kc1569 : 0 ≤ ((sm_w1 r7.2 77 ((m.1 72 25)).toNatClampNeg r7.1).1 72 22).toInt ∧ ((sm_w1 r7.2 77 ((m.1 72 25)).toNatClampNeg r7.1).1 72 22).toInt ≤ 80 := ki90.1 72 22
        have kc1570 : ((sm_w1 r7.2 77 ((m.1 72 25)).toNatClampNeg r7.1).1 72 22).toInt = (r7.2.1 72 22).toInt := congrArg Int32.toInt (r_cell (by decide))
        have kf1571 : Fr wX12_readsHedge m r2.2 := Fr.trans Fr.refl kf12 rfl
        have kf1572 : Fr wX12_readsHedge m (sm_w1 r2.2 76 ((m.1 72 25)).toNatClampNeg r2.1) := Fr.w kf1571 rfl
        have kf1573 : Fr wX12_readsHedge m r7.2 := Fr.trans kf1572 kf56 rfl
        have kf1574 : Fr wX12_readsHedge m (sm_w1 r7.2 77 ((m.1 72 25)).toNatClampNeg r7.1) := Fr.w kf1573 rfl
        exact s_ret ⟨(show (0 ≤ (0 : Int32).toInt) ∧ ((0 : Int32).toInt ≤ 1) ∧ ((m.1 72 22).toInt ≤ ((sm_w1 r7.2 77 ((m.1 72 25)).toNatClampNeg r7.1).1 72 22).toInt) by omega), ki90, kf1574⟩
    · have kc1575 : 0 ≤ ((sm_w1 r2.2 76 ((m.1 72 25)).toNatClampNeg r2.1).1 72 22).toInt ∧ ((sm_w1 r2.2 76 ((m.1 72 25)).toNatClampNeg r2.1).1 72 22).toInt ≤ 80 := ki43.1 72 22
      have kc1576 : ((sm_w1 r2.2 76 ((m.1 72 25)).toNatClampNeg r2.1).1 72 22).toInt = (r2.2.1 72 22).toInt := congrArg Int32.toInt (r_cell (by decide))
      have kf1577 : Fr wX12_readsHedge m r2.2 := Fr.trans Fr.refl kf12 rfl
      have kf1578 : Fr wX12_readsHedge m (sm_w1 r2.2 76 ((m.1 72 25)).toNatClampNeg r2.1) := Fr.w kf1577 rfl
      exact s_ret ⟨(show (0 ≤ (0 : Int32).toInt) ∧ ((0 : Int32).toInt ≤ 1) ∧ ((m.1 72 22).toInt ≤ ((sm_w1 r2.2 76 ((m.1 72 25)).toNatClampNeg r2.1).1 72 22).toInt) by omega), ki43, kf1578⟩
