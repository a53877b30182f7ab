/-! round -/
theorem all_e {c : Int32} {k : Nat} (h : (k : Int) = c.toInt) (h14 : k ≤ 14) : (((1 : Int32) <<< (c &&& 31)) - (1 : Int32)).toInt = ((2 ^ k : Nat) : Int) - 1 := by
  have e1 : ((1 : Int32) <<< (c &&& 31)).toInt = ((2 ^ c.toNatClampNeg : Nat) : Int) := a_shlE (by omega) (by omega)
  have e2 : c.toNatClampNeg = k := by
    have := a_tn (x := c) (by omega)
    omega
  rw [e2] at e1
  have hp1 : 0 < 2 ^ k := Nat.two_pow_pos _
  have hp2 : 2 ^ k ≤ 16384 := Nat.pow_le_pow_right (n := 2) (by decide) h14
  rw [a_subl L1 (by omega) (by omega), e1]
theorem pw14 {k : Nat} (h : k ≤ 14) : 0 < 2 ^ k ∧ 2 ^ k ≤ 16384 := ⟨Nat.two_pow_pos _, Nat.pow_le_pow_right (n := 2) (by decide) h⟩
theorem v_cheap {m s : sm_S} (hL : XL m s) (hI : zI m) (hJ : zI s) (hC : zC s) (hS : SEv s m (nH s)) : ∀ (n : Nat) (v2 v3 v4 : Int32), 0 ≤ v4.toInt → v4.toInt ≤ ((2 ^ nH s : Nat) : Int) → ((2 ^ nH s : Nat) : Int) - v4.toInt < (n : Int) → ((v3.toInt = 65535 ∧ ∀ t : Int32, 0 ≤ t.toInt → t.toInt < v4.toInt → ¬ BZv s t) ∨ (MNv s v4.toInt v3.toInt ∧ wndV s v2 (nH s) = v3.toInt)) → Sf (fun r => r.2 = m ∧ ((∀ t : Int32, 0 ≤ t.toInt → t.toInt < ((2 ^ nH s : Nat) : Int) → ¬ BZv s t) ∨ MNv s ((2 ^ nH s : Nat) : Int) (wndV s r.1 (nH s)))) (fX4_cheapestTurns_13 n v2 v3 v4 m) := by
  have l0 := L0
  have l1 := L1
  have hfu := fuE
  have z0 : (0 : Int32).toNatClampNeg = 0 := by decide
  have e31 := hL.hedge
  have c31 : 0 ≤ (m.1 3 1).toInt ∧ (m.1 3 1).toInt ≤ 14 := hI.1 3 1
  obtain ⟨eH, eC, bH, bC⟩ := t_n hJ
  obtain ⟨hp1, hp2⟩ := pw14 bH
  have eA := all_e (c := m.1 3 1) (k := nH s) (by omega) bH
  intro n
  induction n with
  | zero => intro v2 v3 v4 h0 h1 hn; have hz : ((0 : Nat) : Int) = 0 := rfl; omega
  | succ n ih =>
    intro v2 v3 v4 h0 h1 hn hP
    have hnn : ((n + 1 : Nat) : Int) = (n : Int) + 1 := by omega
    unfold fX4_cheapestTurns_13 fX2_everyHedge
    rw [Option.bind_some]
    refine s_lt (fun g => ?_) (fun g => ?_)
    · have e4 : v4.toInt = ((2 ^ nH s : Nat) : Int) := by omega
      rw [e4] at hP
      refine s_ret ⟨rfl, ?_⟩
      rcases hP with ⟨-, hP⟩ | ⟨hP, hw⟩
      · exact Or.inl hP
      · refine Or.inr ?_
        show MNv s _ (wndV s v2 (nH s))
        rw [hw]; exact hP
    · have e4 : (v4 + (1 : Int32)).toInt = v4.toInt + 1 := a_addl L1 (by omega) (by omega)
      have bw := (wm_b hJ v4 (nH s) (Nat.le_refl _)).1
      unfold fX4_isBalanced
      refine s_bd (v_bal2 hL hI hJ hC hS (X := v4) ⟨h0, by omega⟩ sm_fu (0 : Int32) (by omega) (by omega) (by omega) (fun v hv => by omega)) (fun r6 h6 => ?_)
      refine s_eq (fun g6 => ?_) (fun g6 => ?_)
      · have hno : ¬ BZv s v4 := by
          rcases h6 with ⟨h6, -⟩ | ⟨-, h6⟩
          · omega
          · exact h6
        refine ih v2 v3 (v4 + (1 : Int32)) (by omega) (by omega) (by omega) ?_
        rw [e4]
        rcases hP with ⟨p1, p2⟩ | ⟨p1, p2⟩
        · refine Or.inl ⟨p1, fun t t0 t1 hB => ?_⟩
          by_cases q : t = v4
          · subst q; exact hno hB
          · have : t.toInt ≠ v4.toInt := fun z => q (eqI.mpr z)
            exact p2 t t0 (by omega) hB
        · exact Or.inr ⟨p1.skip (fun hB => absurd hB hno), p2⟩
      · have hyes : BZv s v4 := by
          rcases h6 with ⟨-, h6⟩ | ⟨h6, -⟩
          · exact h6
          · omega
        unfold fX4_windOf
        refine s_bd (v_wind hL hI hJ v4 sm_fu (0 : Int32) (0 : Int32) (by omega) (by omega) (by omega) (by rw [z0]; exact l0)) (fun r8 h8 => ?_)
        refine s_le (fun g8 => ?_) (fun g8 => ?_)
        · refine ih v2 v3 (v4 + (1 : Int32)) (by omega) (by omega) (by omega) ?_
          rw [e4]
          rcases hP with ⟨p1, p2⟩ | ⟨p1, p2⟩
          · omega
          · exact Or.inr ⟨p1.skip (fun _ => by omega), p2⟩
        · refine ih v4 r8 (v4 + (1 : Int32)) (by omega) (by omega) (by omega) (Or.inr ?_)
          rw [e4, h8]
          refine ⟨MNv.take h0 hyes (fun u u0 u1 hB => ?_), rfl⟩
          rcases hP with ⟨p1, p2⟩ | ⟨p1, p2⟩
          · exact absurd hB (p2 u u0 u1)
          · have := p1.2 u u0 u1 hB
            omega
theorem v_r49 {m s : sm_S} (hL : XL m s) (hI : zI m) (hJ : zI s) (X : Int32) : ∀ (n : Nat) (v3 v4 : Int32), 0 ≤ v4.toInt → v4.toInt ≤ (m.1 3 1).toInt → (m.1 3 1).toInt - v4.toInt < (n : Int) → v3.toInt = mntV s v4.toNatClampNeg → Sf (fun r => r.1.toInt = mntV s (nH s) + wndV s X (nH s)) (fX11_round_49 n X v3 v4 m) := by
  have l0 := L0
  have hfu := fuE
  have z0 : (0 : Int32).toNatClampNeg = 0 := by decide
  have e31 := hL.hedge
  have c31 : 0 ≤ (m.1 3 1).toInt ∧ (m.1 3 1).toInt ≤ 14 := hI.1 3 1
  obtain ⟨eH, eC, bH, bC⟩ := t_n hJ
  intro n
  induction n with
  | zero => intro v3 v4 h0 h1 hn; have hz : ((0 : Nat) : Int) = 0 := rfl; omega
  | succ n ih =>
    intro v3 v4 h0 h1 hn hv
    have hnn : ((n + 1 : Nat) : Int) = (n : Int) + 1 := by omega
    have et := a_tn h0
    unfold fX11_round_49
    refine s_le (fun g => ?_) (fun g => ?_)
    · have e4 : v4.toNatClampNeg = nH s := by omega
      rw [e4] at hv
      refine s_bd (zX5_tell X m hI) (fun m10 h10 => ?_)
      obtain ⟨-, i10, F10⟩ := h10
      have L10' : XL m10 s := hL.fr (W := [(14, 1), (15, 999)]) (Fr.sub F10 rfl) (Fr.refl (W := [])) rfl
      have f31 : (m10.1 3 1).toInt = (m.1 3 1).toInt := congrArg Int32.toInt (F10 3 1 rfl)
      unfold fX4_windOf
      refine s_bd (v_wind L10' i10 hJ X sm_fu (0 : Int32) (0 : Int32) (by omega) (by omega) (by omega) (by rw [z0]; exact l0)) (fun r12 h12 => s_ret ?_)
      have bw := wm_b hJ X (nH s) (Nat.le_refl _)
      show (v3 + r12).toInt = _
      rw [a_add (by omega) (by omega), hv, h12]
    · have e4 : (v4 + (1 : Int32)).toInt = v4.toInt + 1 := a_addl L1 (by omega) (by omega)
      have hs4 : (v4 + (1 : Int32)).toNatClampNeg = v4.toNatClampNeg + 1 := by
        have := a_tn (x := v4 + (1 : Int32)) (by omega)
        omega
      obtain ⟨-, -, q3, -⟩ := hL.row h0 (by omega)
      have bw := (wm_b hJ X v4.toNatClampNeg (by omega)).2
      have b78 : ((-1 : Int) ≤ (s.1 78 v4.toNatClampNeg).toInt) ∧ (s.1 78 v4.toNatClampNeg).toInt ≤ 20 := hJ.1 78 _
      have eM : mntV s (v4.toNatClampNeg + 1) = mntV s v4.toNatClampNeg + (s.1 78 v4.toNatClampNeg).toInt := rfl
      refine s_ix (by omega) ?_
      refine ih _ (v4 + (1 : Int32)) (by omega) (by omega) (by omega) ?_
      rw [hs4, eM, q3, a_add (by omega) (by omega), hv]
/-! the reference's loop -/
theorem v_r35 {s : sm_S} (hJ : zI s) {k21 : Int32 → Int32 → Int32 → sm_S → Option (Int32 × sm_S)} {Q : Int32 × sm_S → Prop} (v1 v2 X : Int32) (hE : ∀ V : Int32, V.toInt = mntV s (nH s) + wndV s X (nH s) → Sf Q (if v1 < 0 then ((fX12_isEven X s).bind fun r8 => if r8.1 = 0 then (k21 v1 v2 (X + (1 : Int32)) r8.2) else (k21 X V (X + (1 : Int32)) r8.2)) else (if v2 ≤ V then (k21 v1 v2 (X + (1 : Int32)) s) else ((fX12_isEven X s).bind fun r10 => if r10.1 = 0 then (k21 v1 v2 (X + (1 : Int32)) r10.2) else (k21 X V (X + (1 : Int32)) r10.2))))) : ∀ (n : Nat) (v4 v5 : Int32), 0 ≤ v5.toInt → v5.toInt ≤ (s.1 72 6).toInt → (s.1 72 6).toInt - v5.toInt < (n : Int) → v4.toInt = mntV s v5.toNatClampNeg + wndV s X v5.toNatClampNeg → Sf Q (fX12_round_35 k21 n v1 v2 X v4 v5 s) := by
  have l0 := L0
  obtain ⟨eH, eC, bH, bC⟩ := t_n hJ
  intro n
  induction n with
  | zero => intro v4 v5 h0 h1 hn; have hz : ((0 : Nat) : Int) = 0 := rfl; omega
  | succ n ih =>
    intro v4 v5 h0 h1 hn hv
    have hnn : ((n + 1 : Nat) : Int) = (n : Int) + 1 := by omega
    have et := a_tn h0
    unfold fX12_round_35
    refine s_le (fun g => ?_) (fun g => ?_)
    · have e5 : v5.toNatClampNeg = nH s := by omega
      rw [e5] at hv
      exact hE v4 hv
    · have e5 : (v5 + (1 : Int32)).toInt = v5.toInt + 1 := a_addl L1 (by omega) (by omega)
      have hs5 : (v5 + (1 : Int32)).toNatClampNeg = v5.toNatClampNeg + 1 := by
        have := a_tn (x := v5 + (1 : Int32)) (by omega)
        omega
      have bw := wm_b hJ X v5.toNatClampNeg (by omega)
      have b78 : ((-1 : Int) ≤ (s.1 78 v5.toNatClampNeg).toInt) ∧ (s.1 78 v5.toNatClampNeg).toInt ≤ 20 := hJ.1 78 _
      have b82 : ((-1 : Int) ≤ (s.1 82 v5.toNatClampNeg).toInt) ∧ (s.1 82 v5.toNatClampNeg).toInt ≤ 9 := hJ.1 82 _
      have eM : mntV s (v5.toNatClampNeg + 1) = mntV s v5.toNatClampNeg + (s.1 78 v5.toNatClampNeg).toInt := rfl
      have eW : wndV s X (v5.toNatClampNeg + 1) = wndV s X v5.toNatClampNeg + (if bt X v5.toNatClampNeg = true then (s.1 82 v5.toNatClampNeg).toInt else 0) := rfl
      refine s_ix (by omega) ?_
      refine s_bd (zX12_has2 X v5 s (by omega)) (fun r13 h13 => ?_)
      refine s_eq (fun g13 => ?_) (fun g13 => s_ix (by omega) ?_)
      · have hX := has_f h13 (by omega)
        refine ih _ (v5 + (1 : Int32)) (by omega) (by omega) (by omega) ?_
        rw [Int32.add_zero, hs5, eM, eW, hX, if_neg (show ¬ (false = true) by decide), a_add (by omega) (by omega), hv]
        omega
      · have hX := has_t h13 (by omega)
        have e78 : ((s.1 78 v5.toNatClampNeg) + (s.1 82 v5.toNatClampNeg)).toInt = (s.1 78 v5.toNatClampNeg).toInt + (s.1 82 v5.toNatClampNeg).toInt := a_add (by omega) (by omega)
        refine ih _ (v5 + (1 : Int32)) (by omega) (by omega) (by omega) ?_
        rw [hs5, eM, eW, hX, if_pos (show true = true from rfl), a_add (by omega) (by omega), e78, hv]
        omega
theorem ws_same {s0 s : sm_S} (F : Fr [(95, 999)] s0 s) (X : Int32) : ∀ k : Nat, wndV s X k = wndV s0 X k ∧ mntV s k = mntV s0 k := by
  intro k
  induction k with
  | zero => exact ⟨rfl, rfl⟩
  | succ k ih =>
    have e1 : wndV s X (k + 1) = wndV s X k + (if bt X k = true then (s.1 82 k).toInt else 0) := rfl
    have e2 : mntV s (k + 1) = mntV s k + (s.1 78 k).toInt := rfl
    rw [e1, e2, ih.1, ih.2, F 82 k rfl, F 78 k rfl]
    exact ⟨rfl, rfl⟩
theorem t_same5 {m m' : sm_S} (F : Fr [(95, 999)] m m') : ta m' = ta m ∧ tb m' = tb m ∧ nH m' = nH m ∧ nC m' = nC m := by
  obtain ⟨a, b, c⟩ := t_same (m := m) (m' := m') (fun j => F 76 j rfl) (fun j => F 77 j rfl) (F 72 6 rfl)
  refine ⟨a, b, c, ?_⟩
  unfold nC
  rw [F 72 3 rfl]
theorem BZv.same {s0 s : sm_S} (F : Fr [(95, 999)] s0 s) (X : Int32) : BZv s X ↔ BZv s0 X := by
  obtain ⟨w1, w2, w3, w4⟩ := t_same5 F
  unfold BZv
  rw [w1, w2, w3, w4]
theorem v_r21 (s0 : sm_S) (hJ0 : zI s0) (hC0 : zC s0) : ∀ (n : Nat) (v1 v2 v3 : Int32) (s : sm_S), Fr [(95, 999)] s0 s → zI s → 0 ≤ v3.toInt → v3.toInt ≤ ((2 ^ nH s0 : Nat) : Int) → ((2 ^ nH s0 : Nat) : Int) - v3.toInt < (n : Int) → ((v1.toInt = -1 ∧ ∀ t : Int32, 0 ≤ t.toInt → t.toInt < v3.toInt → ¬ BZv s0 t) ∨ (0 ≤ v1.toInt ∧ MNv s0 v3.toInt (v2.toInt - mntV s0 (nH s0)))) → Sf (fun r => (r.1.toInt = -2 ∧ ∀ t : Int32, 0 ≤ t.toInt → t.toInt < ((2 ^ nH s0 : Nat) : Int) → ¬ BZv s0 t) ∨ MNv s0 ((2 ^ nH s0 : Nat) : Int) (r.1.toInt - mntV s0 (nH s0))) (fX12_round_21 n v1 v2 v3 s) := by
  have l0 := L0
  have l1 := L1
  have hfu := fuE
  have ln2 : (-2 : Int32).toInt = -2 := by decide
  have z0 : (0 : Int32).toNatClampNeg = 0 := by decide
  obtain ⟨eH, eC, bH, bC⟩ := t_n hJ0
  obtain ⟨hp1, hp2⟩ := pw14 bH
  have eA := all_e (c := s0.1 72 6) (k := nH s0) (by omega) bH
  have cH : 0 ≤ (s0.1 72 6).toInt ∧ (s0.1 72 6).toInt ≤ 14 := hJ0.1 72 6
  intro n
  induction n with
  | zero => intro v1 v2 v3 s F hJ h0 h1 hn; have hz : ((0 : Nat) : Int) = 0 := rfl; omega
  | succ n ih =>
    intro v1 v2 v3 s F hJ h0 h1 hn hP
    have hnn : ((n + 1 : Nat) : Int) = (n : Int) + 1 := by omega
    have e6 : s.1 72 6 = s0.1 72 6 := F 72 6 rfl
    obtain ⟨w1, w2, w3, w4⟩ := t_same5 F
    have ws := ws_same F v3 (nH s0)
    unfold fX12_round_21 fX12_allHedges
    rw [Option.bind_some, e6]
    refine s_lt (fun g => ?_) (fun g => ?_)
    · have e4 : v3.toInt = ((2 ^ nH s0 : Nat) : Int) := by omega
      rw [e4] at hP
      refine s_le (fun g1 => ?_) (fun g1 => s_ret (Or.inl ⟨ln2, ?_⟩))
      · obtain ⟨m6, e6'⟩ : ∃ m6, fX12_enters v1 (sm_w1 s 72 1 (0 : Int32)) = some m6 := by
          unfold fX12_enters
          rw [show (sm_w1 s 72 1 (0 : Int32)).1 72 1 = (0 : Int32) from r_hit, if_pos (ix_in (show 0 ≤ (0 : Int32).toInt ∧ (0 : Int32).toInt < ((24 : Nat) : Int) by omega))]
          exact ⟨_, rfl⟩
        rw [e6', Option.bind_some]
        rcases hP with ⟨p1, -⟩ | ⟨-, p2⟩
        · omega
        · exact s_ret (Or.inr p2)
      · rcases hP with ⟨-, p2⟩ | ⟨p1, -⟩
        · exact p2
        · omega
    · have e3 : (v3 + (1 : Int32)).toInt = v3.toInt + 1 := a_addl L1 (by omega) (by omega)
      have hCs : zC s := hC0.fr F rfl
      have bw := wm_b hJ0 v3 (nH s0) (Nat.le_refl _)
      refine v_r35 hJ v1 v2 v3 (fun V hV => ?_) sm_fu (0 : Int32) (0 : Int32) (by omega) (by rw [e6]; omega) (by rw [e6]; omega) (by rw [z0]; exact l0)
      rw [w3, ws.1, ws.2] at hV
      -- an even one is taken
      have take : (∀ u : Int32, 0 ≤ u.toInt → u.toInt < v3.toInt → BZv s0 u → wndV s0 v3 (nH s0) ≤ wndV s0 u (nH s0)) → Sf (fun r => (r.1.toInt = -2 ∧ ∀ t : Int32, 0 ≤ t.toInt → t.toInt < ((2 ^ nH s0 : Nat) : Int) → ¬ BZv s0 t) ∨ MNv s0 ((2 ^ nH s0 : Nat) : Int) (r.1.toInt - mntV s0 (nH s0))) ((fX12_isEven v3 s).bind fun r8 => if r8.1 = 0 then (fX12_round_21 n v1 v2 (v3 + (1 : Int32)) r8.2) else (fX12_round_21 n v3 V (v3 + (1 : Int32)) r8.2)) := by
        intro hmin
        refine s_bd (s_even hJ hCs (X := v3) ⟨h0, by omega⟩) (fun r8 h8 => ?_)
        obtain ⟨h8, j8, F8⟩ := h8
        have F08 : Fr [(95, 999)] s0 r8.2 := Fr.trans F F8 rfl
        refine s_eq (fun g8 => ?_) (fun g8 => ?_)
        · have hno : ¬ BZv s0 v3 := by
            rcases h8 with ⟨h8, -⟩ | ⟨-, h8⟩
            · omega
            · exact fun z => h8 ((BZv.same F v3).mpr z)
          refine ih v1 v2 (v3 + (1 : Int32)) r8.2 F08 j8 (by omega) (by omega) (by omega) ?_
          rw [e3]
          rcases hP with ⟨p1, p2⟩ | ⟨p1, p2⟩
          · refine Or.inl ⟨p1, fun t t0 t1 hB => ?_⟩
            by_cases q : t = v3
            · subst q; exact hno hB
            · have : t.toInt ≠ v3.toInt := fun z => q (eqI.mpr z)
              exact p2 t t0 (by omega) hB
          · exact Or.inr ⟨p1, p2.skip (fun hB => absurd hB hno)⟩
        · have hyes : BZv s0 v3 := by
            rcases h8 with ⟨-, h8⟩ | ⟨h8, -⟩
            · exact (BZv.same F v3).mp h8
            · omega
          refine ih v3 V (v3 + (1 : Int32)) r8.2 F08 j8 (by omega) (by omega) (by omega) (Or.inr ⟨h0, ?_⟩)
          rw [e3, show V.toInt - mntV s0 (nH s0) = wndV s0 v3 (nH s0) by omega]
          exact MNv.take h0 hyes hmin
      refine s_lt (fun g1 => ?_) (fun g1 => ?_)
      · rcases hP with ⟨p1, p2⟩ | ⟨p1, -⟩
        · exact take (fun u u0 u1 hB => absurd hB (p2 u u0 u1))
        · omega
      · rcases hP with ⟨p1, -⟩ | ⟨p1, p2⟩
        · omega
        · refine s_le (fun g2 => ?_) (fun g2 => ?_)
          · refine ih v1 v2 (v3 + (1 : Int32)) s F hJ (by omega) (by omega) (by omega) (Or.inr ⟨p1, ?_⟩)
            rw [e3]
            exact p2.skip (fun _ => by omega)
          · exact take (fun u u0 u1 hB => by have := p2.2 u u0 u1 hB; omega)
/-! where all are even a turning is there; elsewhere none -/
theorem ex_turn {s : sm_S} (hJ : zI s) (hC : zC s) (hp : ∀ v : Nat, par (ta s) (tb s) (fun _ => true) v (nH s) = false) : ∃ t : Int32, 0 ≤ t.toInt ∧ t.toInt < ((2 ^ nH s : Nat) : Int) ∧ BZv s t := by
  obtain ⟨eH, eC, bH, bC⟩ := t_n hJ
  obtain ⟨hp1, hp2⟩ := pw14 bH
  obtain ⟨T, -, hT⟩ := bal_ex (a := ta s) (b := tb s) (n := nH s) (fun k hk => (t_ends hJ hC hk).2.2.2.2) 14 (fun _ => true) 0 0 (Nat.le_trans (cnt_le _ _) bH) (fun v => by rw [hp v, Bool.xor_self])
  obtain ⟨k, hk, hb⟩ := num_ex T (nH s)
  have ek : (nI k).toInt = (k : Int) := nI_toInt (by omega)
  refine ⟨nI k, by omega, by omega, fun v _ => ?_⟩
  rw [bal_cg (T' := T) (fun i hi _ => by rw [b_nat k i (by omega), hb i, decide_eq_true hi]; rfl), hT v]
  omega
theorem no_turn {s : sm_S} (hJ : zI s) (hC : zC s) {v : Nat} (hp : par (ta s) (tb s) (fun _ => true) v (nH s) = true) (t : Int32) : ¬ BZv s t := by
  intro hB
  have hv : v < nC s := by
    rcases Nat.lt_or_ge v (nC s) with q | q
    · exact q
    · rw [par_hi (fun h hh _ => ⟨(t_ends hJ hC hh).2.2.1, (t_ends hJ hC hh).2.2.2.1⟩) q] at hp
      cases hp
  have h0 := hB v hv
  obtain ⟨q, hq⟩ := bal_even (a := ta s) (b := tb s) (S := fun _ => true) (T := bt t) (v := v) (n := nH s)
  rw [hp, if_pos (show true = true from rfl)] at hq
  omega
theorem tq_round {m s : sm_S} (hR : RX m s) (hI : zI m) (hJ : zI s) (hC : zC s) : TR (fun a b => a.1 = b.1) (fX11_round m) (fX12_round s) := by
  have l0 := L0
  have l1 := L1
  have ln1 := Ln1
  have l65535 := L65535
  have hfu := fuE
  have ln2 : (-2 : Int32).toInt = -2 := by decide
  have z0 : (0 : Int32).toNatClampNeg = 0 := by decide
  have F0 : Fr [(72, 0)] s (sm_w1 s 72 0 (0 : Int32)) := Fr.w Fr.refl rfl
  have i0 : zI (sm_w1 s 72 0 (0 : Int32)) := zI.w hJ rfl (show 0 ≤ (0 : Int32).toInt ∧ (0 : Int32).toInt ≤ 1 by omega)
  have hL0 : XL m (sm_w1 s 72 0 (0 : Int32)) := hR.2.1.fr (W := []) Fr.refl F0 rfl
  have hC0 : zC (sm_w1 s 72 0 (0 : Int32)) := hC.fr F0 rfl
  unfold fX11_round fX12_round fX2_everyHedge
  generalize sm_w1 s 72 0 (0 : Int32) = S0 at i0 hL0 hC0 ⊢
  have e31 := hL0.hedge
  have c31 : 0 ≤ (m.1 3 1).toInt ∧ (m.1 3 1).toInt ≤ 14 := hI.1 3 1
  have eAA : m.1 3 1 = S0.1 72 6 := hL0.1.2.1
  obtain ⟨eH0, eC0, bH0, bC0⟩ := t_n i0
  rw [Option.bind_some]
  refine tr_bd (th_hang12 i0 hC0) (fun r2 h2 => ?_)
  obtain ⟨h2, j1, F1⟩ := h2
  refine tl_bd (s_odd11 hL0 hI i0 hC0 (((1 : Int32) <<< ((m.1 3 1) &&& 31)) - (1 : Int32))) (fun r4 h4 => ?_)
  have h11 := th_hang11 hL0 hI i0 hC0
  rw [← eAA] at h2
  have hall : ∀ h : Nat, h < nH S0 → bt (((1 : Int32) <<< ((m.1 3 1) &&& 31)) - (1 : Int32)) h = true := fun h hh => by
    rw [b_all c31.1 (by omega) (by omega)]; exact decide_eq_true (by omega)
  have hpar : ∀ v : Nat, par (ta S0) (tb S0) (bt (((1 : Int32) <<< ((m.1 3 1) &&& 31)) - (1 : Int32))) v (nH S0) = par (ta S0) (tb S0) (fun _ => true) v (nH S0) := fun v => par_cg (fun k hk => hall k hk)
  obtain ⟨w1, w2, w3, w4⟩ := t_same2 (m := S0) (m' := r2.2) (Fr.sub F1 rfl)
  have hL1 : XL m r2.2 := hL0.fr (W := []) Fr.refl F1 rfl
  have hC1 : zC r2.2 := hC0.fr F1 rfl
  have hpw := pw14 (k := nH r2.2) (by rw [w3]; exact bH0)
  have ref21 := v_r21 r2.2 j1 hC1 sm_fu (-1 : Int32) (0 : Int32) (0 : Int32) r2.2 Fr.refl j1 (by omega) (by omega) (by omega) (Or.inl ⟨ln1, fun t t0 t1 => by omega⟩)
  refine tl_eq (fun g4 => ?_) (fun g4 => ?_)
  · -- all are even
    have g4' : r4 = 0 := eqI.mpr g4
    have hpf : ∀ v : Nat, par (ta r2.2) (tb r2.2) (fun _ => true) v (nH r2.2) = false := fun v => by
      rw [w1, w2, w3, ← hpar v]
      rcases Nat.lt_or_ge v 32 with q | q
      · rw [← h4 v q, g4', b_0]
      · exact par_hi (N := 32) (fun h hh _ => by have := t_ends i0 hC0 hh; omega) q
    refine tl_bd h11 (fun r6 h6 => ?_)
    refine tl_eq (fun g6 => ?_) (fun g6 => ?_)
    · refine tr_eq (fun _ => t_ret rfl) (fun g2 => ?_)
      rcases h6 with ⟨h6, -⟩ | ⟨-, h6⟩
      · omega
      · rcases h2 with ⟨-, h2⟩ | ⟨h2, -⟩
        · exact absurd h2 h6
        · omega
    · refine tr_eq (fun g2 => ?_) (fun _ => ?_)
      · rcases h6 with ⟨-, h6⟩ | ⟨h6, -⟩
        · rcases h2 with ⟨h2, -⟩ | ⟨-, h2⟩
          · omega
          · exact absurd h6 h2
        · omega
      · obtain ⟨t, t0, t1, tB⟩ := ex_turn j1 hC1 hpf
        unfold fX4_cheapestTurns
        have cls : Sf (fun a => ∃ x : Int, MNv r2.2 ((2 ^ nH r2.2 : Nat) : Int) x ∧ a.1.toInt = mntV r2.2 (nH r2.2) + x) (((fX4_sortEnds m).bind fun m2 => fX4_cheapestTurns_13 sm_fu (0 : Int32) (65535 : Int32) (0 : Int32) m2).bind fun r8 => fX11_round_49 sm_fu r8.1 (0 : Int32) (0 : Int32) r8.2) := by
          obtain ⟨m2, em2, hSE, i2, F2⟩ := s_sort hL1 hI j1 hC1
          have hL2 : XL m2 r2.2 := hL1.fr (W := [(27, 999), (28, 999)]) (Fr.sub F2 rfl) (Fr.refl (W := [])) rfl
          have f31 : (m2.1 3 1).toInt = (m.1 3 1).toInt := congrArg Int32.toInt (F2 3 1 rfl)
          rw [em2, Option.bind_some]
          refine s_bd (v_cheap hL2 i2 j1 hC1 hSE sm_fu (0 : Int32) (65535 : Int32) (0 : Int32) (by omega) (by omega) (by omega) (Or.inl ⟨l65535, fun u u0 u1 => by omega⟩)) (fun r8 h8 => ?_)
          obtain ⟨h8a, h8⟩ := h8
          rw [h8a]
          refine s_mono (v_r49 hL2 i2 j1 r8.1 sm_fu (0 : Int32) (0 : Int32) (by omega) (by omega) (by omega) (by rw [z0]; exact l0)) (fun a ha => ?_)
          rcases h8 with h8 | h8
          · exact absurd tB (h8 t t0 t1)
          · exact ⟨_, h8, ha⟩
        refine t_sf cls ref21 (fun a b ha hb => ?_)
        obtain ⟨x, hx, hax⟩ := ha
        rcases hb with ⟨-, hb⟩ | hb
        · exact absurd tB (hb t t0 t1)
        · have := MNv.uni hx hb
          exact eqI.mpr (by omega)
  · -- some corner is odd
    have hv : ∃ v : Nat, v < 32 ∧ bt r4 v = true := by
      refine Classical.byContradiction (fun z => g4 ?_)
      have : r4 = 0 := b_ext (fun i hi => by
        rw [b_0]
        cases hb : bt r4 i with
        | false => rfl
        | true => exact absurd ⟨i, hi, hb⟩ z)
      rw [this]
    obtain ⟨v, hv, hb⟩ := hv
    rw [h4 v hv, hpar v, ← w1, ← w2, ← w3] at hb
    refine tr_eq (fun _ => t_ret rfl) (fun _ => ?_)
    obtain ⟨b, eb, hbb⟩ := ref21
    refine ⟨_, b, rfl, eb, ?_⟩
    rcases hbb with ⟨hbb, -⟩ | ⟨⟨t, -, -, tB, -⟩, -⟩
    · exact eqI.mpr (by rw [hbb]; exact ln2)
    · exact absurd tB (no_turn j1 hC1 hb t)
