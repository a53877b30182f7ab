/-! THE SETS ONE BEHIND THE OTHER -/
theorem e_49A (mB sB : sm_S) (hL0 : XL mB sB) (hI0 : zI mB) (hJ0 : zI sB) (hC0 : zC sB) (x : Nat) (lim : Int) (hl : 0 ≤ lim ∧ lim ≤ 9999) (k39 : Int32 → sm_S → Option sm_S) (X : Int32) (hX : 0 ≤ X.toInt ∧ X.toNatClampNeg < 2 ^ nH sB ∧ X.toInt < 16384) (m : sm_S) (hm : m.1 = mB.1) (hE : (ln1 m X.toNatClampNeg).toInt = 65535) : ∀ (n : Nat) (v3 : Int32) (s : sm_S), TB mB sB m s → RELt sB x lim m s → 0 ≤ v3.toInt → v3.toInt ≤ (sB.1 72 3).toInt → (sB.1 72 3).toInt - v3.toInt < (n : Int) → ∃ s', fX12_laysOut_49 k39 n X v3 s = k39 (X + (1 : Int32)) s' ∧ TB mB sB m s' ∧ RELt sB x lim m s' := by
  have l0 := L0
  have l10 := L10
  have lm := L1000000
  have hfu := fuE
  have c31 : 0 ≤ (mB.1 3 1).toInt ∧ (mB.1 3 1).toInt ≤ 14 := hI0.1 3 1
  obtain ⟨eH, eC, bH, bC⟩ := t_n hJ0
  intro n
  induction n with
  | zero => intro v3 s hT hR h0 h1 hn; have hz : ((0 : Nat) : Int) = 0 := rfl; omega
  | succ n ih =>
    intro v3 s hT hR h0 h1 hn
    have hnn : ((n + 1 : Nat) : Int) = (n : Int) + 1 := by omega
    have et := a_tn h0
    have etX := a_tn hX.1
    have e723 : (s.1 72 3).toInt = (sB.1 72 3).toInt := congrArg Int32.toInt (hT.2.1 72 3 rfl)
    by_cases g : (s.1 72 3) ≤ v3
    · refine ⟨s, ?_, hT, hR⟩
      conv => lhs; unfold fX12_laysOut_49
      rw [if_pos g]
    · have g' := Int.not_le.mp (fun z => g (leI.mpr z))
      have e3 : (v3 + (1 : Int32)).toInt = v3.toInt + 1 := a_addl L1 (by omega) (by omega)
      have ei1 : ((10 : Int32) * X).toInt = 10 * X.toInt := a_mul L10 rfl (by omega) (by omega)
      have ei : (((10 : Int32) * X) + v3).toInt = 10 * X.toInt + v3.toInt := by rw [a_add (by omega) (by omega), ei1]
      have eit := a_tn (x := (((10 : Int32) * X) + v3)) (by omega)
      have hx : 0 ≤ (((10 : Int32) * X) + v3).toInt ∧ (((10 : Int32) * X) + v3).toInt < ((163840 : Nat) : Int) := by omega
      have hD : Dc s X.toNatClampNeg v3.toNatClampNeg = (s.1 98 (((10 : Int32) * X) + v3).toNatClampNeg).toInt := by
        unfold Dc
        rw [show (((10 : Int32) * X) + v3).toNatClampNeg = 10 * X.toNatClampNeg + v3.toNatClampNeg by omega]
      have unf : fX12_laysOut_49 k39 (n + 1) X v3 s = fX12_laysOut_73 (fX12_laysOut_49 k39 n) k39 sm_fu X v3 (s.1 98 (((10 : Int32) * X) + v3).toNatClampNeg) (0 : Int32) s := by
        conv => lhs; unfold fX12_laysOut_49
        rw [if_neg g, if_pos (ix_in hx)]
      rw [unf]
      have hlt : v3.toNatClampNeg < nC sB := by omega
      have big : lim < Dc s X.toNatClampNeg v3.toNatClampNeg := by
        rcases hR.2.1 _ hX.2.1 with ⟨-, z⟩ | ⟨c, hc, z1, z2⟩
        · exact z _ hlt
        · have zz := hR.1 _ hX.2.1 c hc
          have hp := pN_le X.toNatClampNeg
          unfold FARi at zz
          omega
      by_cases q : 1000000 ≤ (s.1 98 (((10 : Int32) * X) + v3).toNatClampNeg).toInt
      · obtain ⟨k, hk⟩ : ∃ k : Nat, sm_fu = k + 1 := ⟨199999, rfl⟩
        rw [hk, e_73far _ _ q]
        exact ih (v3 + (1 : Int32)) s hT hR (by omega) (by omega) (by omega)
      · have hfin := hR.1 _ hX.2.1 _ hlt
        rw [hD] at hfin big
        rcases hfin with z | ⟨z1, z2, z3⟩
        · unfold FARi at z; omega
        · obtain ⟨s', a1, a2, a3, -⟩ := e_73A mB sB hL0 hI0 hJ0 hC0 x lim hl (fX12_laysOut_49 k39 n) k39 X v3 (s.1 98 (((10 : Int32) * X) + v3).toNatClampNeg) hX ⟨h0, by omega⟩ ⟨big, z2, z3⟩ m hm sm_fu (0 : Int32) s hT hR (by omega) (by omega) (by omega)
          rw [a1]
          exact ih (v3 + (1 : Int32)) s' a2 a3 (by omega) (by omega) (by omega)
theorem e_49far (mB sB : sm_S) (hI0 : zI mB) (hJ0 : zI sB) (k39 : Int32 → sm_S → Option sm_S) (X : Int32) (hX : 0 ≤ X.toInt ∧ X.toInt < 16384) (m s : sm_S) (hT : TB mB sB m s) : ∀ (n : Nat) (v3 : Int32), 0 ≤ v3.toInt → v3.toInt ≤ (sB.1 72 3).toInt → (sB.1 72 3).toInt - v3.toInt < (n : Int) → (∀ d : Nat, v3.toInt ≤ (d : Int) → d < nC sB → Dc s X.toNatClampNeg d = FARi) → fX12_laysOut_49 k39 n X v3 s = k39 (X + (1 : Int32)) s := by
  have l10 := L10
  obtain ⟨eH, eC, bH, bC⟩ := t_n hJ0
  intro n
  induction n with
  | zero => intro v3 h0 h1 hn; have hz : ((0 : Nat) : Int) = 0 := rfl; omega
  | succ n ih =>
    intro v3 h0 h1 hn hf
    have hnn : ((n + 1 : Nat) : Int) = (n : Int) + 1 := by omega
    have et := a_tn h0
    have etX := a_tn hX.1
    have e723 : (s.1 72 3).toInt = (sB.1 72 3).toInt := congrArg Int32.toInt (hT.2.1 72 3 rfl)
    by_cases g : (s.1 72 3) ≤ v3
    · conv => lhs; unfold fX12_laysOut_49
      rw [if_pos g]
    · have g' := Int.not_le.mp (fun z => g (leI.mpr z))
      have e3 : (v3 + (1 : Int32)).toInt = v3.toInt + 1 := a_addl L1 (by omega) (by omega)
      have ei1 : ((10 : Int32) * X).toInt = 10 * X.toInt := a_mul L10 rfl (by omega) (by omega)
      have ei : (((10 : Int32) * X) + v3).toInt = 10 * X.toInt + v3.toInt := by rw [a_add (by omega) (by omega), ei1]
      have eit := a_tn (x := (((10 : Int32) * X) + v3)) (by omega)
      have hx : 0 ≤ (((10 : Int32) * X) + v3).toInt ∧ (((10 : Int32) * X) + v3).toInt < ((163840 : Nat) : Int) := by omega
      have hD := hf v3.toNatClampNeg (by omega) (by omega)
      unfold Dc FARi at hD
      rw [show 10 * X.toNatClampNeg + v3.toNatClampNeg = (((10 : Int32) * X) + v3).toNatClampNeg by omega] at hD
      conv => lhs; unfold fX12_laysOut_49
      obtain ⟨k, hk⟩ : ∃ k : Nat, sm_fu = k + 1 := ⟨199999, rfl⟩
      rw [if_neg g, if_pos (ix_in hx), hk, e_73far _ _ (by omega)]
      exact ih (v3 + (1 : Int32)) (by omega) (by omega) (by omega) (fun d hd hd2 => hf d (by omega) hd2)
theorem e_49B (mB sB : sm_S) (hL0 : XL mB sB) (hI0 : zI mB) (hJ0 : zI sB) (hC0 : zC sB) (h32 : (mB.1 32 0).toInt = 16384) (x : Nat) (lim : Int32) (hl : 0 ≤ lim.toInt ∧ lim.toInt ≤ 9999) (k39 : Int32 → sm_S → Option sm_S) (X e so : Int32) (hX : 0 ≤ X.toInt ∧ X.toNatClampNeg < 2 ^ nH sB ∧ X.toInt < 16384) (he : gC sB e) (m s : sm_S) (hT : TB mB sB m s) (hR : RELt sB x lim.toInt m s) (hso : so.toInt = Dc s X.toNatClampNeg e.toNatClampNeg ∧ so.toInt ≤ lim.toInt) : ∀ (n : Nat) (v3 : Int32), 0 ≤ v3.toInt → v3.toInt ≤ e.toInt → (sB.1 72 3).toInt - v3.toInt < (n : Int) → ∃ m' s', fX10_extend_14 sm_fu X lim e so (0 : Int32) m = some m' ∧ fX12_laysOut_49 k39 n X v3 s = k39 (X + (1 : Int32)) s' ∧ TB mB sB m' s' ∧ RELt sB x lim.toInt m' s' := by
  have l0 := L0
  have l10 := L10
  have hfu := fuE
  have c31 : 0 ≤ (mB.1 3 1).toInt ∧ (mB.1 3 1).toInt ≤ 14 := hI0.1 3 1
  obtain ⟨eH, eC, bH, bC⟩ := t_n hJ0
  have he' := he
  unfold gC at he'
  have ete := a_tn he'.1
  have hp := pN_le X.toNatClampNeg
  have hfin : 0 ≤ Dc s X.toNatClampNeg e.toNatClampNeg ∧ Dc s X.toNatClampNeg e.toNatClampNeg ≤ 29 * ((pN X.toNatClampNeg : Nat) : Int) ∧ PAR sB x X.toNatClampNeg e.toNatClampNeg := by
    rcases hR.1 _ hX.2.1 e.toNatClampNeg (by omega) with z | z
    · unfold FARi at z; omega
    · exact z
  have others : ∀ d : Nat, d < nC sB → d ≠ e.toNatClampNeg → Dc s X.toNatClampNeg d = FARi := by
    intro d hd hne
    refine Classical.byContradiction (fun z => hne ?_)
    exact hR.uni hX.2.1 hd (by omega) z (by unfold FARi; omega)
  have e723 : (s.1 72 3).toInt = (sB.1 72 3).toInt := congrArg Int32.toInt (hT.2.1 72 3 rfl)
  have etX := a_tn hX.1
  intro n
  induction n with
  | zero => intro v3 h0 h1 hn; have hz : ((0 : Nat) : Int) = 0 := rfl; omega
  | succ n ih =>
    intro v3 h0 h1 hn
    have hnn : ((n + 1 : Nat) : Int) = (n : Int) + 1 := by omega
    have et := a_tn h0
    have g : ¬ (s.1 72 3) ≤ v3 := fun z => by have := leI.mp z; omega
    have e3 : (v3 + (1 : Int32)).toInt = v3.toInt + 1 := a_addl L1 (by omega) (by omega)
    have ei1 : ((10 : Int32) * X).toInt = 10 * X.toInt := a_mul L10 rfl (by omega) (by omega)
    have ei : (((10 : Int32) * X) + v3).toInt = 10 * X.toInt + v3.toInt := by rw [a_add (by omega) (by omega), ei1]
    have eit := a_tn (x := (((10 : Int32) * X) + v3)) (by omega)
    have hx : 0 ≤ (((10 : Int32) * X) + v3).toInt ∧ (((10 : Int32) * X) + v3).toInt < ((163840 : Nat) : Int) := by omega
    have hk10 : (((10 : Int32) * X) + v3).toNatClampNeg = 10 * X.toNatClampNeg + v3.toNatClampNeg := by omega
    have unf : fX12_laysOut_49 k39 (n + 1) X v3 s = fX12_laysOut_73 (fX12_laysOut_49 k39 n) k39 sm_fu X v3 (s.1 98 (((10 : Int32) * X) + v3).toNatClampNeg) (0 : Int32) s := by
      conv => lhs; unfold fX12_laysOut_49
      rw [if_neg g, if_pos (ix_in hx)]
    rw [unf]
    by_cases q : v3 = e
    · subst q
      have hsoe : s.1 98 (((10 : Int32) * X) + v3).toNatClampNeg = so := eqI.mpr (by rw [hso.1, hk10]; rfl)
      rw [hsoe]
      obtain ⟨m', s', a0, a1, a2, a3, a4⟩ := e_73B mB sB hL0 hI0 hJ0 hC0 h32 x lim hl (fX12_laysOut_49 k39 n) k39 X v3 so hX he ⟨by omega, hso.2, by omega, hfin.2.2⟩ sm_fu (0 : Int32) m s hT hR (by omega) (by omega) (by omega)
      refine ⟨m', s', a0, ?_, a2, a3⟩
      rw [a1]
      exact e_49far mB sB hI0 hJ0 k39 X ⟨hX.1, hX.2.2⟩ m' s' a2 n (v3 + (1 : Int32)) (by omega) (by omega) (by omega) (fun d hd hd2 => by rw [a4 d (by omega)]; exact others d hd2 (by omega))
    · have hne : v3.toInt ≠ e.toInt := fun z => q (eqI.mpr z)
      have hD := others v3.toNatClampNeg (by omega) (by omega)
      unfold Dc FARi at hD
      rw [← hk10] at hD
      obtain ⟨k, hk⟩ : ∃ k : Nat, sm_fu = k + 1 := ⟨199999, rfl⟩
      rw [hk, e_73far _ _ (by omega), ← hk]
      exact ih (v3 + (1 : Int32)) (by omega) (by omega) (by omega)
theorem pow_b {H : Nat} (h : H ≤ 14) : 2 ^ H ≤ 16384 := Nat.pow_le_pow_right (n := 2) (by decide) h
theorem e_39 (mB sB : sm_S) (hL0 : XL mB sB) (hI0 : zI mB) (hJ0 : zI sB) (hC0 : zC sB) (h32 : (mB.1 32 0).toInt = 16384) (h31 : (mB.1 31 1).toInt = ((2 ^ nH sB : Nat) : Int)) (x : Nat) (lim : Int32) (hl : 0 ≤ lim.toInt ∧ lim.toInt ≤ 9999) : ∀ (n : Nat) (v : Int32) (m s : sm_S), TB mB sB m s → RELt sB x lim.toInt m s → 0 ≤ v.toInt → v.toInt ≤ ((2 ^ nH sB : Nat) : Int) → ((2 ^ nH sB : Nat) : Int) - v.toInt < (n : Int) → ∃ m' s', fX10_explore_33 n lim v m = some m' ∧ fX12_laysOut_39 n v s = some s' ∧ TB mB sB m' s' ∧ RELt sB x lim.toInt m' s' := by
  have l0 := L0
  have l1 := L1
  have l65535 := L65535
  have hfu := fuE
  have c31 : 0 ≤ (mB.1 3 1).toInt ∧ (mB.1 3 1).toInt ≤ 14 := hI0.1 3 1
  obtain ⟨eH, eC, bH, bC⟩ := t_n hJ0
  have hpb := pow_b bH
  have cH : 0 ≤ (sB.1 72 6).toInt ∧ (sB.1 72 6).toInt ≤ 14 := hJ0.1 72 6
  intro n
  induction n with
  | zero => intro v m s hT hR h0 h1 hn; have hz : ((0 : Nat) : Int) = 0 := rfl; omega
  | succ n ih =>
    intro v m s hT hR h0 h1 hn
    have hnn : ((n + 1 : Nat) : Int) = (n : Int) + 1 := by omega
    have et := a_tn h0
    have hI : zI m := zI.of1 hT.1 hI0
    have em31 : (m.1 31 1).toInt = ((2 ^ nH sB : Nat) : Int) := by rw [hT.1]; exact h31
    have em32 : (m.1 32 0).toInt = 16384 := by rw [hT.1]; exact h32
    have eA : fX12_allHedges s = some (((1 : Int32) <<< ((sB.1 72 6) &&& 31)) - (1 : Int32)) := by
      unfold fX12_allHedges
      rw [hT.2.1 72 6 rfl]
    have eS : (((1 : Int32) <<< ((sB.1 72 6) &&& 31)) - (1 : Int32)).toInt = ((2 ^ nH sB : Nat) : Int) - 1 := by
      have e1 : ((1 : Int32) <<< ((sB.1 72 6) &&& 31)).toInt = ((2 ^ (sB.1 72 6).toNatClampNeg : Nat) : Int) := a_shlE cH.1 (by omega)
      have e2 : (sB.1 72 6).toNatClampNeg = nH sB := rfl
      rw [e2] at e1
      have hp1 : 0 < 2 ^ nH sB := Nat.two_pow_pos _
      rw [a_subl L1 (by omega) (by omega), e1]
    have ev : (v + (1 : Int32)).toInt = v.toInt + 1 := a_addl L1 (by omega) (by omega)
    by_cases g : (m.1 31 1) ≤ v
    · have g' := leI.mp g
      refine ⟨m, s, ?_, ?_, hT, hR⟩
      · conv => lhs; unfold fX10_explore_33
        rw [if_pos g]
      · conv => lhs; unfold fX12_laysOut_39
        rw [eA, Option.bind_some, if_pos (ltI.mpr (by omega))]
    · have g' : v.toInt < (m.1 31 1).toInt := Int.not_le.mp (fun z => g (leI.mpr z))
      have hX : 0 ≤ v.toInt ∧ v.toNatClampNeg < 2 ^ nH sB ∧ v.toInt < 16384 := ⟨h0, by omega, by omega⟩
      have hlane := ln1_b m v.toNatClampNeg
      have unfR : fX12_laysOut_39 (n + 1) v s = fX12_laysOut_49 (fX12_laysOut_39 n) sm_fu v (0 : Int32) s := by
        conv => lhs; unfold fX12_laysOut_39
        rw [eA, Option.bind_some, if_neg (fun z => by have := ltI.mp z; omega)]
      by_cases q : (65535 : Int32) ≤ ln1 m v.toNatClampNeg
      · have q' := leI.mp q
        obtain ⟨s', a1, a2, a3⟩ := e_49A mB sB hL0 hI0 hJ0 hC0 x lim.toInt hl (fX12_laysOut_39 n) v hX m hT.1 (by omega) sm_fu (0 : Int32) s hT hR (by omega) (by omega) (by omega)
        obtain ⟨m'', s'', b1, b2, b3, b4⟩ := ih (v + (1 : Int32)) m s' a2 a3 (by omega) (by omega) (by omega)
        refine ⟨m'', s'', ?_, ?_, b3, b4⟩
        · conv => lhs; unfold fX10_explore_33
          rw [if_neg g, e_at1 hI h0 (by omega), Option.bind_some, if_pos q]
          exact b1
        · rw [unfR, a1]; exact b2
      · have q' := Int.not_le.mp (fun z => q (leI.mpr z))
        obtain ⟨u1, u2⟩ := unpack hlane
        rcases hR.2.1 _ hX.2.1 with ⟨z, -⟩ | ⟨c, hc, z1, z2⟩
        · omega
        · have hfin := hR.1 _ hX.2.1 c hc
          have hp := pN_le v.toNatClampNeg
          have hf2 : 0 ≤ Dc s v.toNatClampNeg c := by
            rcases hfin with z | z
            · unfold FARi at z; omega
            · exact z.1
          have ec : (ln1 m v.toNatClampNeg &&& (15 : Int32)).toInt = (c : Int) := by rw [u1]; omega
          have ed : (ln1 m v.toNatClampNeg >>> ((4 : Int32) &&& 31)).toInt = Dc s v.toNatClampNeg c := by rw [u2]; omega
          have etc := a_tn (x := ln1 m v.toNatClampNeg &&& (15 : Int32)) (by omega)
          obtain ⟨m', s', a0, a1, a2, a3⟩ := e_49B mB sB hL0 hI0 hJ0 hC0 h32 x lim hl (fX12_laysOut_39 n) v (ln1 m v.toNatClampNeg &&& (15 : Int32)) (ln1 m v.toNatClampNeg >>> ((4 : Int32) &&& 31)) hX ⟨by omega, by omega⟩ m s hT hR ⟨by rw [show (ln1 m v.toNatClampNeg &&& (15 : Int32)).toNatClampNeg = c by omega]; exact ed, by omega⟩ sm_fu (0 : Int32) (by omega) (by omega) (by omega)
          obtain ⟨m'', s'', b1, b2, b3, b4⟩ := ih (v + (1 : Int32)) m' s' a2 a3 (by omega) (by omega) (by omega)
          refine ⟨m'', s'', ?_, ?_, b3, b4⟩
          · conv => lhs; unfold fX10_explore_33
            rw [if_neg g, e_at1 hI h0 (by omega), Option.bind_some, if_neg q]
            unfold fX10_extend
            rw [a0, Option.bind_some]
            exact b1
          · rw [unfR, a1]; exact b2
