/-! BOTH LAY OUT THEIR ROWS ALIKE -/
theorem or_lt {X h H : Nat} (hX : X < 2 ^ H) (hh : h < H) : X ||| 2 ^ h < 2 ^ H := Nat.or_lt_two_pow hX (Nat.pow_lt_pow_right (by decide) hh)
/-- a corner that can't be left: nothing happens -/
theorem e_73far (k49 : Int32 → Int32 → sm_S → Option sm_S) (k39 : Int32 → sm_S → Option sm_S) {n : Nat} {X c so : Int32} {s : sm_S} (h : 1000000 ≤ so.toInt) (v5 : Int32) : fX12_laysOut_73 k49 k39 (n + 1) X c so v5 s = k49 X (c + (1 : Int32)) s := by
  have l := L1000000
  conv => lhs; unfold fX12_laysOut_73
  by_cases q : (s.1 72 6) ≤ v5
  · rw [if_pos q]
  · rw [if_neg q, if_pos (leI.mpr (by omega))]
/-- one corner that can be left: the reference alone, beyond the limit -/
theorem e_73A (mB sB : sm_S) (hL0 : XL mB sB) (hI0 : zI mB) (hJ0 : zI sB) (hC0 : zC sB) (x : Nat) (lim : Int) (hl : 0 ≤ lim ∧ lim ≤ 9999) (k49 : Int32 → Int32 → sm_S → Option sm_S) (k39 : Int32 → sm_S → Option sm_S) (X c so : Int32) (hX : 0 ≤ X.toInt ∧ X.toNatClampNeg < 2 ^ nH sB ∧ X.toInt < 16384) (hc : gC sB c) (hso : lim < so.toInt ∧ so.toInt ≤ 29 * ((pN X.toNatClampNeg : Nat) : Int) ∧ PAR sB x X.toNatClampNeg c.toNatClampNeg) (m : sm_S) (hm : m.1 = mB.1) : ∀ (n : Nat) (v5 : Int32) (s : sm_S), TB mB sB m s → RELt sB x lim m s → 0 ≤ v5.toInt → v5.toInt ≤ (mB.1 3 1).toInt → (mB.1 3 1).toInt - v5.toInt < (n : Int) → ∃ s', fX12_laysOut_73 k49 k39 n X c so v5 s = k49 X (c + (1 : Int32)) s' ∧ TB mB sB m s' ∧ RELt sB x lim m s' ∧ ∀ d : Nat, d < 10 → Dc s' X.toNatClampNeg d = Dc s X.toNatClampNeg d := by
  have l0 := L0
  have l1 := L1
  have l10 := L10
  have lm := L1000000
  have c31 : 0 ≤ (mB.1 3 1).toInt ∧ (mB.1 3 1).toInt ≤ 14 := hI0.1 3 1
  have e310 := hL0.hedge
  obtain ⟨eH, eC, bH, bC⟩ := t_n hJ0
  have hc' := hc
  unfold gC at hc'
  have etc := a_tn hc'.1
  have etX := a_tn hX.1
  have hpX := pN_le X.toNatClampNeg
  intro n
  induction n with
  | zero => intro v5 s hT hR h0 h1 hn; have hz : ((0 : Nat) : Int) = 0 := rfl; omega
  | succ n ih =>
    intro v5 s hT hR h0 h1 hn
    have hnn : ((n + 1 : Nat) : Int) = (n : Int) + 1 := by omega
    have et := a_tn h0
    have hL := TB.L hL0 hT
    have hC := TB.C hC0 hT
    have hJ := hT.2.2
    have hI : zI m := zI.of1 hT.1 hI0
    obtain ⟨w1, w2, w3, w4⟩ := hT.t
    have e31 := hL.hedge
    have em31 : (m.1 3 1).toInt = (mB.1 3 1).toInt := by rw [hT.1]
    by_cases g : (s.1 72 6) ≤ v5
    · refine ⟨s, ?_, hT, hR, fun d _ => rfl⟩
      conv => lhs; unfold fX12_laysOut_73
      rw [if_pos g]
    · have g' : v5.toInt < (s.1 72 6).toInt := Int.not_le.mp (fun z => g (leI.mpr z))
      have e5 : (v5 + (1 : Int32)).toInt = v5.toInt + 1 := a_addl L1 (by omega) (by omega)
      have hh := b_has (x := X) h0 (show v5.toInt < 32 by omega)
      have hso2 : ¬ (1000000 : Int32) ≤ so := fun z => by have := leI.mp z; omega
      by_cases q : ((X >>> (v5 &&& 31)) &&& (1 : Int32)) = (1 : Int32)
      · obtain ⟨s', a1, a2, a3, a4⟩ := ih (v5 + (1 : Int32)) s hT hR (by omega) (by omega) (by omega)
        refine ⟨s', ?_, a2, a3, a4⟩
        rw [← a1]
        conv => lhs; unfold fX12_laysOut_73
        unfold fX12_has
        rw [if_neg g, if_neg hso2, if_pos q, Option.bind_some, if_neg (show ¬ ((1 : Int32) = 0) by decide)]
      · have hXb : bt X v5.toNatClampNeg = false := by
          cases hb : bt X v5.toNatClampNeg with
          | false => rfl
          | true => exact absurd (hh.mpr hb) q
        have hXN : bN X.toNatClampNeg v5.toNatClampNeg = false := by rw [← bt_N hX.1 (by omega)]; exact hXb
        by_cases qe : (m.1 6 v5.toNatClampNeg = c ∨ m.1 7 v5.toNatClampNeg = c)
        · obtain ⟨t1, t2, t3, t4, t5⟩ := st_step hL hI hJ hC h0 (by omega) hc'.1 qe
          rw [w1, w2] at t1 t2
          rw [w4] at t3
          obtain ⟨o1, o2, o3⟩ := bit_or hX.1 hX.2.2 h0 (show v5.toInt < 14 by omega)
          have oE := otE.b hI v5 c
          have etO := a_tn oE.1
          have hLt : X.toNatClampNeg ||| 2 ^ v5.toNatClampNeg < 2 ^ nH sB := or_lt hX.2.1 (by omega)
          have hLt14 : X.toNatClampNeg ||| 2 ^ v5.toNatClampNeg < 16384 := by have := a_tn o2; omega
          have hpL := pN_or (X := X.toNatClampNeg) (h := v5.toNatClampNeg) (by omega) hXN
          have etL := a_tn o2
          have ei1 : ((10 : Int32) * (X ||| ((1 : Int32) <<< (v5 &&& 31)))).toInt = 10 * (X ||| ((1 : Int32) <<< (v5 &&& 31))).toInt := a_mul L10 rfl (by omega) (by omega)
          have ei : (((10 : Int32) * (X ||| ((1 : Int32) <<< (v5 &&& 31)))) + otE m v5 c).toInt = 10 * (X ||| ((1 : Int32) <<< (v5 &&& 31))).toInt + (otE m v5 c).toInt := by rw [a_add (by omega) (by omega), ei1]
          have eit := a_tn (x := (((10 : Int32) * (X ||| ((1 : Int32) <<< (v5 &&& 31)))) + otE m v5 c)) (by omega)
          have hk : (((10 : Int32) * (X ||| ((1 : Int32) <<< (v5 &&& 31)))) + otE m v5 c).toNatClampNeg = 10 * (X.toNatClampNeg ||| 2 ^ v5.toNatClampNeg) + (otE m v5 c).toNatClampNeg := by omega
          have hx : 0 ≤ (((10 : Int32) * (X ||| ((1 : Int32) <<< (v5 &&& 31)))) + otE m v5 c).toInt ∧ (((10 : Int32) * (X ||| ((1 : Int32) <<< (v5 &&& 31)))) + otE m v5 c).toInt < ((163840 : Nat) : Int) := by omega
          have ew : (so + mnF m v5 c).toInt = so.toInt + (mnF m v5 c).toInt := a_add (by omega) (by omega)
          have ci : ((so + mnF m v5 c).toInt < (s.1 98 (((10 : Int32) * (X ||| ((1 : Int32) <<< (v5 &&& 31)))) + otE m v5 c).toNatClampNeg).toInt ∧ (if (so + mnF m v5 c) < (s.1 98 (((10 : Int32) * (X ||| ((1 : Int32) <<< (v5 &&& 31)))) + otE m v5 c).toNatClampNeg) then (so + mnF m v5 c) else (s.1 98 (((10 : Int32) * (X ||| ((1 : Int32) <<< (v5 &&& 31)))) + otE m v5 c).toNatClampNeg)).toInt = (so + mnF m v5 c).toInt) ∨ ((s.1 98 (((10 : Int32) * (X ||| ((1 : Int32) <<< (v5 &&& 31)))) + otE m v5 c).toNatClampNeg).toInt ≤ (so + mnF m v5 c).toInt ∧ (if (so + mnF m v5 c) < (s.1 98 (((10 : Int32) * (X ||| ((1 : Int32) <<< (v5 &&& 31)))) + otE m v5 c).toNatClampNeg) then (so + mnF m v5 c) else (s.1 98 (((10 : Int32) * (X ||| ((1 : Int32) <<< (v5 &&& 31)))) + otE m v5 c).toNatClampNeg)).toInt = (s.1 98 (((10 : Int32) * (X ||| ((1 : Int32) <<< (v5 &&& 31)))) + otE m v5 c).toNatClampNeg).toInt) := a_ilt
          generalize hV : (if (so + mnF m v5 c) < (s.1 98 (((10 : Int32) * (X ||| ((1 : Int32) <<< (v5 &&& 31)))) + otE m v5 c).toNatClampNeg) then (so + mnF m v5 c) else (s.1 98 (((10 : Int32) * (X ||| ((1 : Int32) <<< (v5 &&& 31)))) + otE m v5 c).toNatClampNeg)) = V at ci
          have hD : Dc s (X.toNatClampNeg ||| 2 ^ v5.toNatClampNeg) (otE m v5 c).toNatClampNeg = (s.1 98 (((10 : Int32) * (X ||| ((1 : Int32) <<< (v5 &&& 31)))) + otE m v5 c).toNatClampNeg).toInt := by unfold Dc; rw [hk]
          have hvv : V.toInt = if (so.toInt + (mnF m v5 c).toInt) < Dc s (X.toNatClampNeg ||| 2 ^ v5.toNatClampNeg) (otE m v5 c).toNatClampNeg then (so.toInt + (mnF m v5 c).toInt) else Dc s (X.toNatClampNeg ||| 2 ^ v5.toNatClampNeg) (otE m v5 c).toNatClampNeg := by
            rw [hD, ← ew]
            rcases ci with ⟨z1, z2⟩ | ⟨z1, z2⟩
            · rw [if_pos z1]; exact z2
            · rw [if_neg (by omega)]; exact z2
          have hU := UPD.w (s := s) (L := X.toNatClampNeg ||| 2 ^ v5.toNatClampNeg) (c := (otE m v5 c).toNatClampNeg) (by omega) hk hvv
          have hPA : PAR sB x (X.toNatClampNeg ||| 2 ^ v5.toNatClampNeg) (otE m v5 c).toNatClampNeg := by
            rw [t2]; exact PAR.next (by omega) hXN t1 hso.2.2
          have hR2 := RELt.ref hl.2 bC hR hLt (by omega) (by omega) (by omega) hPA (by omega) hU
          have b98 : 0 ≤ (s.1 98 (((10 : Int32) * (X ||| ((1 : Int32) <<< (v5 &&& 31)))) + otE m v5 c).toNatClampNeg).toInt ∧ (s.1 98 (((10 : Int32) * (X ||| ((1 : Int32) <<< (v5 &&& 31)))) + otE m v5 c).toNatClampNeg).toInt ≤ 1000000 := hJ.1 98 _
          have hT2 : TB mB sB m (sm_w1 s 98 (((10 : Int32) * (X ||| ((1 : Int32) <<< (v5 &&& 31)))) + otE m v5 c).toNatClampNeg V) := ⟨hT.1, Fr.w hT.2.1 rfl, zI.w hJ rfl (show 0 ≤ V.toInt ∧ V.toInt ≤ 1000000 by omega)⟩
          obtain ⟨s', a1, a2, a3, a4⟩ := ih (v5 + (1 : Int32)) _ hT2 hR2 (by omega) (by omega) (by omega)
          refine ⟨s', ?_, a2, a3, fun d hd => ?_⟩
          · rw [← a1, ← hV]
            conv => lhs; unfold fX12_laysOut_73
            unfold fX12_has
            rw [if_neg g, if_neg hso2, if_neg q, Option.bind_some, if_pos rfl, e_isEnd12 hL hI h0 (by omega), Option.bind_some, if_pos qe, if_neg (show ¬ ((1 : Int32) = 0) by decide), e_other12 hL hI h0 (by omega), Option.bind_some, if_pos (ix_in hx), e_mins12 hL hI h0 (by omega), Option.bind_some, if_pos (ix_in hx)]
          · rw [a4 d hd, hU X.toNatClampNeg d hd, if_neg (fun z => ?_)]
            have z1 := z.1
            have : bN (X.toNatClampNeg ||| 2 ^ v5.toNatClampNeg) v5.toNatClampNeg = true := by rw [bN_or]; simp
            rw [← z1, hXN] at this; cases this
        · obtain ⟨s', a1, a2, a3, a4⟩ := ih (v5 + (1 : Int32)) s hT hR (by omega) (by omega) (by omega)
          refine ⟨s', ?_, a2, a3, a4⟩
          rw [← a1]
          conv => lhs; unfold fX12_laysOut_73
          unfold fX12_has
          rw [if_neg g, if_neg hso2, if_neg q, Option.bind_some, if_pos rfl, e_isEnd12 hL hI h0 (by omega), Option.bind_some, if_neg qe, if_pos rfl]
/-- both leave the corner at which the class's walk over the set ends -/
theorem e_73B (mB sB : sm_S) (hL0 : XL mB sB) (hI0 : zI mB) (hJ0 : zI sB) (hC0 : zC sB) (h32 : (mB.1 32 0).toInt = 16384) (x : Nat) (lim : Int32) (hl : 0 ≤ lim.toInt ∧ lim.toInt ≤ 9999) (k49 : Int32 → Int32 → sm_S → Option sm_S) (k39 : Int32 → sm_S → Option sm_S) (X c so : Int32) (hX : 0 ≤ X.toInt ∧ X.toNatClampNeg < 2 ^ nH sB ∧ X.toInt < 16384) (hc : gC sB c) (hso : 0 ≤ so.toInt ∧ so.toInt ≤ lim.toInt ∧ so.toInt ≤ 29 * ((pN X.toNatClampNeg : Nat) : Int) ∧ PAR sB x X.toNatClampNeg c.toNatClampNeg) : ∀ (n : Nat) (v5 : Int32) (m s : sm_S), TB mB sB m s → RELt sB x lim.toInt m s → 0 ≤ v5.toInt → v5.toInt ≤ (mB.1 3 1).toInt → (mB.1 3 1).toInt - v5.toInt < (n : Int) → ∃ m' s', fX10_extend_14 n X lim c so v5 m = some m' ∧ fX12_laysOut_73 k49 k39 n X c so v5 s = k49 X (c + (1 : Int32)) s' ∧ TB mB sB m' s' ∧ RELt sB x lim.toInt m' s' ∧ (∀ d : Nat, d < 10 → Dc s' X.toNatClampNeg d = Dc s X.toNatClampNeg d) := by
  have l0 := L0
  have l1 := L1
  have l10 := L10
  have lm := L1000000
  have c31 : 0 ≤ (mB.1 3 1).toInt ∧ (mB.1 3 1).toInt ≤ 14 := hI0.1 3 1
  have e310 := hL0.hedge
  obtain ⟨eH, eC, bH, bC⟩ := t_n hJ0
  have hc' := hc
  unfold gC at hc'
  have etc := a_tn hc'.1
  have etX := a_tn hX.1
  have hpX := pN_le X.toNatClampNeg
  intro n
  induction n with
  | zero => intro v5 m s hT hR h0 h1 hn; have hz : ((0 : Nat) : Int) = 0 := rfl; omega
  | succ n ih =>
    intro v5 m s hT hR h0 h1 hn
    have hnn : ((n + 1 : Nat) : Int) = (n : Int) + 1 := by omega
    have et := a_tn h0
    have hL := TB.L hL0 hT
    have hC := TB.C hC0 hT
    have hJ := hT.2.2
    have hI : zI m := zI.of1 hT.1 hI0
    obtain ⟨w1, w2, w3, w4⟩ := hT.t
    have e31 := hL.hedge
    have em31 : (m.1 3 1).toInt = (mB.1 3 1).toInt := by rw [hT.1]
    have em32 : (m.1 32 0).toInt = 16384 := by rw [hT.1]; exact h32
    by_cases g : (s.1 72 6) ≤ v5
    · have gm : (m.1 3 1) ≤ v5 := leI.mpr (by have := leI.mp g; omega)
      refine ⟨m, s, ?_, ?_, hT, hR, fun d _ => rfl⟩
      · conv => lhs; unfold fX10_extend_14
        rw [if_pos gm]
      · conv => lhs; unfold fX12_laysOut_73
        rw [if_pos g]
    · have g' : v5.toInt < (s.1 72 6).toInt := Int.not_le.mp (fun z => g (leI.mpr z))
      have gm : ¬ (m.1 3 1) ≤ v5 := fun z => by have := leI.mp z; omega
      have e5 : (v5 + (1 : Int32)).toInt = v5.toInt + 1 := a_addl L1 (by omega) (by omega)
      have hh := b_has (x := X) h0 (show v5.toInt < 32 by omega)
      have h00 := b_has0 (x := X) h0 (show v5.toInt < 32 by omega)
      have hso2 : ¬ (1000000 : Int32) ≤ so := fun z => by have := leI.mp z; omega
      have hv14 : 0 ≤ v5.toInt ∧ v5.toInt < ((14 : Nat) : Int) := by omega
      by_cases q : ((X >>> (v5 &&& 31)) &&& (1 : Int32)) = (1 : Int32)
      · have q0 : ¬ ((X >>> (v5 &&& 31)) &&& (1 : Int32)) = 0 := by rw [q]; decide
        obtain ⟨m', s', a0, a1, a2, a3, a4⟩ := ih (v5 + (1 : Int32)) m s hT hR (by omega) (by omega) (by omega)
        refine ⟨m', s', ?_, ?_, a2, a3, a4⟩
        · rw [← a0]
          conv => lhs; unfold fX10_extend_14
          rw [if_neg gm, if_neg q0]
        · rw [← a1]
          conv => lhs; unfold fX12_laysOut_73
          unfold fX12_has
          rw [if_neg g, if_neg hso2, if_pos q, Option.bind_some, if_neg (show ¬ ((1 : Int32) = 0) by decide)]
      · have hXb : bt X v5.toNatClampNeg = false := by
          cases hb : bt X v5.toNatClampNeg with
          | false => rfl
          | true => exact absurd (hh.mpr hb) q
        have q0 := h00.mpr hXb
        have hXN : bN X.toNatClampNeg v5.toNatClampNeg = false := by rw [← bt_N hX.1 (by omega)]; exact hXb
        by_cases qe : (m.1 6 v5.toNatClampNeg = c ∨ m.1 7 v5.toNatClampNeg = c)
        · obtain ⟨t1, t2, t3, t4, t5⟩ := st_step hL hI hJ hC h0 (by omega) hc'.1 qe
          rw [w1, w2] at t1 t2
          rw [w4] at t3
          obtain ⟨o1, o2, o3⟩ := bit_or hX.1 hX.2.2 h0 (show v5.toInt < 14 by omega)
          have oE := otE.b hI v5 c
          have etO := a_tn oE.1
          have hLt : X.toNatClampNeg ||| 2 ^ v5.toNatClampNeg < 2 ^ nH sB := or_lt hX.2.1 (by omega)
          have hpL := pN_or (X := X.toNatClampNeg) (h := v5.toNatClampNeg) (by omega) hXN
          have etL := a_tn o2
          have ei1 : ((10 : Int32) * (X ||| ((1 : Int32) <<< (v5 &&& 31)))).toInt = 10 * (X ||| ((1 : Int32) <<< (v5 &&& 31))).toInt := a_mul L10 rfl (by omega) (by omega)
          have ei : (((10 : Int32) * (X ||| ((1 : Int32) <<< (v5 &&& 31)))) + otE m v5 c).toInt = 10 * (X ||| ((1 : Int32) <<< (v5 &&& 31))).toInt + (otE m v5 c).toInt := by rw [a_add (by omega) (by omega), ei1]
          have eit := a_tn (x := (((10 : Int32) * (X ||| ((1 : Int32) <<< (v5 &&& 31)))) + otE m v5 c)) (by omega)
          have hk : (((10 : Int32) * (X ||| ((1 : Int32) <<< (v5 &&& 31)))) + otE m v5 c).toNatClampNeg = 10 * (X.toNatClampNeg ||| 2 ^ v5.toNatClampNeg) + (otE m v5 c).toNatClampNeg := by omega
          have hx : 0 ≤ (((10 : Int32) * (X ||| ((1 : Int32) <<< (v5 &&& 31)))) + otE m v5 c).toInt ∧ (((10 : Int32) * (X ||| ((1 : Int32) <<< (v5 &&& 31)))) + otE m v5 c).toInt < ((163840 : Nat) : Int) := by omega
          have ew : (so + mnF m v5 c).toInt = so.toInt + (mnF m v5 c).toInt := a_add (by omega) (by omega)
          have ci : ((so + mnF m v5 c).toInt < (s.1 98 (((10 : Int32) * (X ||| ((1 : Int32) <<< (v5 &&& 31)))) + otE m v5 c).toNatClampNeg).toInt ∧ (if (so + mnF m v5 c) < (s.1 98 (((10 : Int32) * (X ||| ((1 : Int32) <<< (v5 &&& 31)))) + otE m v5 c).toNatClampNeg) then (so + mnF m v5 c) else (s.1 98 (((10 : Int32) * (X ||| ((1 : Int32) <<< (v5 &&& 31)))) + otE m v5 c).toNatClampNeg)).toInt = (so + mnF m v5 c).toInt) ∨ ((s.1 98 (((10 : Int32) * (X ||| ((1 : Int32) <<< (v5 &&& 31)))) + otE m v5 c).toNatClampNeg).toInt ≤ (so + mnF m v5 c).toInt ∧ (if (so + mnF m v5 c) < (s.1 98 (((10 : Int32) * (X ||| ((1 : Int32) <<< (v5 &&& 31)))) + otE m v5 c).toNatClampNeg) then (so + mnF m v5 c) else (s.1 98 (((10 : Int32) * (X ||| ((1 : Int32) <<< (v5 &&& 31)))) + otE m v5 c).toNatClampNeg)).toInt = (s.1 98 (((10 : Int32) * (X ||| ((1 : Int32) <<< (v5 &&& 31)))) + otE m v5 c).toNatClampNeg).toInt) := a_ilt
          generalize hV : (if (so + mnF m v5 c) < (s.1 98 (((10 : Int32) * (X ||| ((1 : Int32) <<< (v5 &&& 31)))) + otE m v5 c).toNatClampNeg) then (so + mnF m v5 c) else (s.1 98 (((10 : Int32) * (X ||| ((1 : Int32) <<< (v5 &&& 31)))) + otE m v5 c).toNatClampNeg)) = V at ci
          have hD : Dc s (X.toNatClampNeg ||| 2 ^ v5.toNatClampNeg) (otE m v5 c).toNatClampNeg = (s.1 98 (((10 : Int32) * (X ||| ((1 : Int32) <<< (v5 &&& 31)))) + otE m v5 c).toNatClampNeg).toInt := by unfold Dc; rw [hk]
          have hvv : V.toInt = if (so.toInt + (mnF m v5 c).toInt) < Dc s (X.toNatClampNeg ||| 2 ^ v5.toNatClampNeg) (otE m v5 c).toNatClampNeg then (so.toInt + (mnF m v5 c).toInt) else Dc s (X.toNatClampNeg ||| 2 ^ v5.toNatClampNeg) (otE m v5 c).toNatClampNeg := by
            rw [hD, ← ew]
            rcases ci with ⟨z1, z2⟩ | ⟨z1, z2⟩
            · rw [if_pos z1]; exact z2
            · rw [if_neg (by omega)]; exact z2
          have hU := UPD.w (s := s) (L := X.toNatClampNeg ||| 2 ^ v5.toNatClampNeg) (c := (otE m v5 c).toNatClampNeg) (by omega) hk hvv
          have hPA : PAR sB x (X.toNatClampNeg ||| 2 ^ v5.toNatClampNeg) (otE m v5 c).toNatClampNeg := by
            rw [t2]; exact PAR.next (by omega) hXN t1 hso.2.2.2
          have b98 : 0 ≤ (s.1 98 (((10 : Int32) * (X ||| ((1 : Int32) <<< (v5 &&& 31)))) + otE m v5 c).toNatClampNeg).toInt ∧ (s.1 98 (((10 : Int32) * (X ||| ((1 : Int32) <<< (v5 &&& 31)))) + otE m v5 c).toNatClampNeg).toInt ≤ 1000000 := hJ.1 98 _
          have hJ2 : zI (sm_w1 s 98 (((10 : Int32) * (X ||| ((1 : Int32) <<< (v5 &&& 31)))) + otE m v5 c).toNatClampNeg V) := zI.w hJ rfl (show 0 ≤ V.toInt ∧ V.toInt ≤ 1000000 by omega)
          have hF2 : Fr [(98, 999)] sB (sm_w1 s 98 (((10 : Int32) * (X ||| ((1 : Int32) <<< (v5 &&& 31)))) + otE m v5 c).toNatClampNeg V) := Fr.w hT.2.1 rfl
          have hsame : ∀ d : Nat, d < 10 → Dc (sm_w1 s 98 (((10 : Int32) * (X ||| ((1 : Int32) <<< (v5 &&& 31)))) + otE m v5 c).toNatClampNeg V) X.toNatClampNeg d = Dc s X.toNatClampNeg d := by
            intro d hd
            rw [hU X.toNatClampNeg d hd, if_neg (fun z => ?_)]
            have z1 := z.1
            have : bN (X.toNatClampNeg ||| 2 ^ v5.toNatClampNeg) v5.toNatClampNeg = true := by rw [bN_or]; simp
            rw [← z1, hXN] at this; cases this
          have refE : ∀ s', fX12_laysOut_73 k49 k39 n X c so (v5 + (1 : Int32)) (sm_w1 s 98 (((10 : Int32) * (X ||| ((1 : Int32) <<< (v5 &&& 31)))) + otE m v5 c).toNatClampNeg V) = k49 X (c + (1 : Int32)) s' → fX12_laysOut_73 k49 k39 (n + 1) X c so v5 s = k49 X (c + (1 : Int32)) s' := by
            intro s' a1
            rw [← a1, ← hV]
            conv => lhs; unfold fX12_laysOut_73
            unfold fX12_has
            rw [if_neg g, if_neg hso2, if_neg q, Option.bind_some, if_pos rfl, e_isEnd12 hL hI h0 (by omega), Option.bind_some, if_pos qe, if_neg (show ¬ ((1 : Int32) = 0) by decide), e_other12 hL hI h0 (by omega), Option.bind_some, if_pos (ix_in hx), e_mins12 hL hI h0 (by omega), Option.bind_some, if_pos (ix_in hx)]
          -- the class
          by_cases ql : lim < (so + mnF m v5 c)
          · have ql' := ltI.mp ql
            have hR2 := RELt.ref hl.2 bC hR hLt (by omega) (by omega) (by omega) hPA (by omega) hU
            obtain ⟨m', s', a0, a1, a2, a3, a4⟩ := ih (v5 + (1 : Int32)) m _ ⟨hT.1, hF2, hJ2⟩ hR2 (by omega) (by omega) (by omega)
            refine ⟨m', s', ?_, refE s' a1, a2, a3, fun d hd => (a4 d hd).trans (hsame d hd)⟩
            rw [← a0]
            conv => lhs; unfold fX10_extend_14
            rw [if_neg gm, if_pos q0, e_touch11 hv14, Option.bind_some, if_pos qe, if_neg (show ¬ ((1 : Int32) = 0) by decide), e_mins11 hv14, Option.bind_some, e_other11 hv14, Option.bind_some, if_pos ql]
          · have ql' := Int.not_lt.mp (fun z => ql (ltI.mpr z))
            have hlane := ln1_b m (X.toNatClampNeg ||| 2 ^ v5.toNatClampNeg)
            have hpk := pack (so + mnF m v5 c) (otE m v5 c) (by omega) (by omega)
            have hat : fX3_at_i1 (X ||| ((1 : Int32) <<< (v5 &&& 31))) m = some (ln1 m (X.toNatClampNeg ||| 2 ^ v5.toNatClampNeg)) := by
              rw [e_at1 hI o2 (by omega), o1]
            by_cases qr : ln1 m (X.toNatClampNeg ||| 2 ^ v5.toNatClampNeg) ≤ (((so + mnF m v5 c) <<< ((4 : Int32) &&& 31)) ||| otE m v5 c)
            · have qr' := leI.mp qr
              have hR2 := RELt.both (m' := m) hl.2 bC hR hLt (show (otE m v5 c).toNatClampNeg < nC sB by omega) (show 0 ≤ so.toInt + (mnF m v5 c).toInt by omega) (by omega) hPA (by omega) hU (fun Y => by
                rw [if_neg (fun z => by have := z.2; omega)])
              obtain ⟨m', s', a0, a1, a2, a3, a4⟩ := ih (v5 + (1 : Int32)) m _ ⟨hT.1, hF2, hJ2⟩ hR2 (by omega) (by omega) (by omega)
              refine ⟨m', s', ?_, refE s' a1, a2, a3, fun d hd => (a4 d hd).trans (hsame d hd)⟩
              rw [← a0]
              conv => lhs; unfold fX10_extend_14
              rw [if_neg gm, if_pos q0, e_touch11 hv14, Option.bind_some, if_pos qe, if_neg (show ¬ ((1 : Int32) = 0) by decide), e_mins11 hv14, Option.bind_some, e_other11 hv14, Option.bind_some, if_neg ql, hat, Option.bind_some, if_pos qr]
            · have qr' := Int.not_le.mp (fun z => qr (leI.mpr z))
              obtain ⟨m1, p1, p2, p3, p4⟩ := e_put1 hI (x := (X ||| ((1 : Int32) <<< (v5 &&& 31)))) (v := (((so + mnF m v5 c) <<< ((4 : Int32) &&& 31)) ||| otE m v5 c)) o2 (by omega) (by omega)
              have hR2 := RELt.both (m' := m1) hl.2 bC hR hLt (show (otE m v5 c).toNatClampNeg < nC sB by omega) (show 0 ≤ so.toInt + (mnF m v5 c).toInt by omega) (by omega) hPA (by omega) hU (fun Y => by
                rw [p4 Y, o1]
                by_cases qY : Y = X.toNatClampNeg ||| 2 ^ v5.toNatClampNeg
                · rw [if_pos qY, if_pos ⟨qY, by omega⟩]; omega
                · rw [if_neg qY, if_neg (fun z => qY z.1)])
              obtain ⟨m', s', a0, a1, a2, a3, a4⟩ := ih (v5 + (1 : Int32)) m1 _ ⟨p2.trans hT.1, hF2, hJ2⟩ hR2 (by omega) (by omega) (by omega)
              refine ⟨m', s', ?_, refE s' a1, a2, a3, fun d hd => (a4 d hd).trans (hsame d hd)⟩
              rw [← a0]
              conv => lhs; unfold fX10_extend_14
              rw [if_neg gm, if_pos q0, e_touch11 hv14, Option.bind_some, if_pos qe, if_neg (show ¬ ((1 : Int32) = 0) by decide), e_mins11 hv14, Option.bind_some, e_other11 hv14, Option.bind_some, if_neg ql, hat, Option.bind_some, if_neg qr, p1, Option.bind_some]
        · obtain ⟨m', s', a0, a1, a2, a3, a4⟩ := ih (v5 + (1 : Int32)) m s hT hR (by omega) (by omega) (by omega)
          refine ⟨m', s', ?_, ?_, a2, a3, a4⟩
          · rw [← a0]
            conv => lhs; unfold fX10_extend_14
            rw [if_neg gm, if_pos q0, e_touch11 hv14, Option.bind_some, if_neg qe, if_pos rfl]
          · rw [← a1]
            conv => lhs; unfold fX12_laysOut_73
            unfold fX12_has
            rw [if_neg g, if_neg hso2, if_neg q, Option.bind_some, if_pos rfl, e_isEnd12 hL hI h0 (by omega), Option.bind_some, if_neg qe, if_pos rfl]
