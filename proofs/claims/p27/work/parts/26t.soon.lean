/-! THE ROWS' BEGINNING; most, home, soon -/
theorem ln_m1 : ∀ n, n < 4 → lnW (-1) n = 65535 := by decide +kernel
theorem e_fill (v1 : Int32) (h1 : 0 ≤ v1.toInt ∧ v1.toInt ≤ 16384) : ∀ (n : Nat) (v2 : Int32) (m : sm_S), 0 ≤ v2.toInt → v2.toInt ≤ 4097 → 4097 - v2.toInt < (n : Int) → (∀ q : Nat, (q : Int) < 4 * v2.toInt → ln1 m q = 65535) → ∃ m', fX3_fillWithForever_2 n v1 v2 m = some m' ∧ m'.1 = m.1 ∧ ∀ q : Nat, (q : Int) < v1.toInt → ln1 m' q = 65535 := by
  have l4097 : (Int32.ofNat 4097).toInt = 4097 := by decide
  have e4 : (v1 / (4 : Int32)).toInt = v1.toInt / 4 := by
    rw [a_div h1.1 (by rw [L4]; decide), L4]
  intro n
  induction n with
  | zero => intro v2 m h0 h2 hn; have hz : ((0 : Nat) : Int) = 0 := rfl; omega
  | succ n ih =>
    intro v2 m h0 h2 hn hq
    have hnn : ((n + 1 : Nat) : Int) = (n : Int) + 1 := by omega
    have et := a_tn h0
    by_cases g : (v1 / (4 : Int32)) < v2
    · have g' := ltI.mp g
      refine ⟨m, ?_, rfl, fun q hq2 => hq q (by omega)⟩
      conv => lhs; unfold fX3_fillWithForever_2
      rw [if_pos g]
    · have g' := Int.not_lt.mp (fun z => g (ltI.mpr z))
      by_cases g2 : (Int32.ofNat 4097) ≤ v2
      · have g2' := leI.mp g2
        refine ⟨m, ?_, rfl, fun q hq2 => hq q (by omega)⟩
        conv => lhs; unfold fX3_fillWithForever_2
        rw [if_neg g, if_pos g2]
      · have g2' := Int.not_le.mp (fun z => g2 (leI.mpr z))
        have e2 : (v2 + (1 : Int32)).toInt = v2.toInt + 1 := a_addl L1 (by omega) (by omega)
        obtain ⟨m', a1, a2, a3⟩ := ih (v2 + (1 : Int32)) (sm_w2 m 33 (v2).toNatClampNeg (-1 : Int64)) (by omega) (by omega) (by omega) (fun q hq2 => by
          show lnW ((sm_w2 m 33 (v2).toNatClampNeg (-1 : Int64)).2 33 (q / 4)) (q % 4) = 65535
          by_cases z : q / 4 = v2.toNatClampNeg
          · rw [z, r2_hit]; exact ln_m1 _ (by omega)
          · rw [r2_place z]; exact hq q (by omega))
        refine ⟨m', ?_, a2, a3⟩
        rw [← a1]
        conv => lhs; unfold fX3_fillWithForever_2
        rw [if_neg g, if_neg g2, if_pos (ix_in (show 0 ≤ v2.toInt ∧ v2.toInt < ((4097 : Nat) : Int) by omega))]
theorem e_lay2 (sB : sm_S) (hJ0 : zI sB) (corner : Int32) (hc : gC sB corner) : ∀ (n : Nat) (v2 : Int32) (s : sm_S), Fr [(98, 999)] sB s → zI s → 0 ≤ v2.toInt → v2.toInt ≤ 10 * ((2 ^ nH sB : Nat) : Int) → 10 * ((2 ^ nH sB : Nat) : Int) - v2.toInt < (n : Int) → (∀ k : Nat, (k : Int) < v2.toInt → (s.1 98 k).toInt = FARi) → ∃ s', fX12_laysOut_2 n corner v2 s = fX12_laysOut_39 sm_fu (0 : Int32) s' ∧ Fr [(98, 999)] sB s' ∧ zI s' ∧ ∀ k : Nat, (k : Int) < 10 * ((2 ^ nH sB : Nat) : Int) → (s'.1 98 k).toInt = if k = corner.toNatClampNeg then 0 else FARi := by
  have l0 := L0
  have l1 := L1
  have lm := L1000000
  have cH : 0 ≤ (sB.1 72 6).toInt ∧ (sB.1 72 6).toInt ≤ 14 := hJ0.1 72 6
  obtain ⟨eH, eC, bH, bC⟩ := t_n hJ0
  have hpb := pow_b bH
  have hc' := hc
  unfold gC at hc'
  have etc := a_tn hc'.1
  have hp1 : 0 < 2 ^ nH sB := Nat.two_pow_pos _
  intro n
  induction n with
  | zero => intro v2 s F hJ h0 h1 hn; have hz : ((0 : Nat) : Int) = 0 := rfl; omega
  | succ n ih =>
    intro v2 s F hJ h0 h1 hn hk
    have hnn : ((n + 1 : Nat) : Int) = (n : Int) + 1 := by omega
    have et := a_tn h0
    have e6 : s.1 72 6 = sB.1 72 6 := F 72 6 rfl
    have e1 : ((1 : Int32) <<< ((s.1 72 6) &&& 31)).toInt = ((2 ^ nH sB : Nat) : Int) := by
      rw [e6, a_shlE cH.1 (by omega)]; rfl
    have e10 : (((1 : Int32) <<< ((s.1 72 6) &&& 31)) * (10 : Int32)).toInt = ((2 ^ nH sB : Nat) : Int) * 10 := a_mul e1 L10 (by omega) (by omega)
    by_cases g : (((1 : Int32) <<< ((s.1 72 6) &&& 31)) * (10 : Int32)) ≤ v2
    · have g' := leI.mp g
      have hx : 0 ≤ corner.toInt ∧ corner.toInt < ((163840 : Nat) : Int) := by omega
      refine ⟨sm_w1 s 98 corner.toNatClampNeg (0 : Int32), ?_, Fr.w F rfl, zI.w hJ rfl (show 0 ≤ (0 : Int32).toInt ∧ (0 : Int32).toInt ≤ 1000000 by omega), fun k hk2 => ?_⟩
      · conv => lhs; unfold fX12_laysOut_2
        rw [if_pos g, if_pos (ix_in hx)]
      · by_cases q : k = corner.toNatClampNeg
        · subst q; rw [r_hit, if_pos rfl]; exact l0
        · rw [r_place q, if_neg q]; exact hk k (by omega)
    · have g' := Int.not_le.mp (fun z => g (leI.mpr z))
      have e2 : (v2 + (1 : Int32)).toInt = v2.toInt + 1 := a_addl L1 (by omega) (by omega)
      have hx : 0 ≤ v2.toInt ∧ v2.toInt < ((163840 : Nat) : Int) := by omega
      obtain ⟨s', a1, a2, a3, a4⟩ := ih (v2 + (1 : Int32)) (sm_w1 s 98 v2.toNatClampNeg (1000000 : Int32)) (Fr.w F rfl) (zI.w hJ rfl (show 0 ≤ (1000000 : Int32).toInt ∧ (1000000 : Int32).toInt ≤ 1000000 by omega)) (by omega) (by omega) (by omega) (fun k hk2 => by
        by_cases q : k = v2.toNatClampNeg
        · subst q; rw [r_hit]; exact lm
        · rw [r_place q]; exact hk k (by omega))
      refine ⟨s', ?_, a2, a3, a4⟩
      rw [← a1]
      conv => lhs; unfold fX12_laysOut_2
      rw [if_neg g, if_pos (ix_in hx)]
/-- both rows laid out -/
theorem e_explore {m s : sm_S} (hL : XL m s) (hI : zI m) (hJ : zI s) (hC : zC s) (h32 : (m.1 32 0).toInt = 16384) {corner lim : Int32} (hc : gC s corner) (hl : 0 ≤ lim.toInt ∧ lim.toInt ≤ 9999) : ∃ m' s', fX10_explore corner lim m = some m' ∧ fX12_laysOut corner s = some s' ∧ TB (sm_w1 m 31 1 ((1 : Int32) <<< ((m.1 3 1) &&& 31))) s m' s' ∧ RELt s corner.toNatClampNeg lim.toInt m' s' ∧ ((1 : Int32) <<< ((m.1 3 1) &&& 31)).toInt = ((2 ^ nH s : Nat) : Int) := by
  have l0 := L0
  have hfu := fuE
  have c31 : 0 ≤ (m.1 3 1).toInt ∧ (m.1 3 1).toInt ≤ 14 := hI.1 3 1
  have e31 := hL.hedge
  obtain ⟨eH, eC, bH, bC⟩ := t_n hJ
  have hpb := pow_b bH
  have hp1 : 0 < 2 ^ nH s := Nat.two_pow_pos _
  have hc' := hc
  unfold gC at hc'
  have etc := a_tn hc'.1
  have z0 : (0 : Int32).toNatClampNeg = 0 := by decide
  have eS : ((1 : Int32) <<< ((m.1 3 1) &&& 31)).toInt = ((2 ^ nH s : Nat) : Int) := by
    rw [a_shlE c31.1 (by omega)]
    have : (m.1 3 1).toNatClampNeg = nH s := by
      have := a_tn c31.1
      omega
    rw [this]
  have iB : zI (sm_w1 m 31 1 ((1 : Int32) <<< ((m.1 3 1) &&& 31))) := zI.w hI rfl (show 0 ≤ ((1 : Int32) <<< ((m.1 3 1) &&& 31)).toInt ∧ ((1 : Int32) <<< ((m.1 3 1) &&& 31)).toInt ≤ 16384 by omega)
  have LB : XL (sm_w1 m 31 1 ((1 : Int32) <<< ((m.1 3 1) &&& 31))) s := hL
  obtain ⟨m2, f1, f2, f3⟩ := e_fill ((1 : Int32) <<< ((m.1 3 1) &&& 31)) (by omega) sm_fu (0 : Int32) (sm_w1 m 31 1 ((1 : Int32) <<< ((m.1 3 1) &&& 31))) (by omega) (by omega) (by omega) (fun q hq => by omega)
  have i2 : zI m2 := zI.of1 f2 iB
  have e32 : (m2.1 32 0).toInt = 16384 := by rw [f2]; exact h32
  obtain ⟨m4, p1, p2, p3, p4⟩ := e_put1 i2 (x := (0 : Int32)) (v := corner) (by omega) (by omega) (by omega)
  obtain ⟨s2, g1, g2, g3, g4⟩ := e_lay2 s hJ corner hc sm_fu (0 : Int32) s Fr.refl hJ (by omega) (by omega) (by omega) (fun k hk => by omega)
  have hT : TB (sm_w1 m 31 1 ((1 : Int32) <<< ((m.1 3 1) &&& 31))) s m4 s2 := ⟨p2.trans f2, g2, g3⟩
  have hD : ∀ X c : Nat, X < 2 ^ nH s → c < nC s → Dc s2 X c = if 10 * X + c = corner.toNatClampNeg then 0 else FARi := by
    intro X c hX hcc
    unfold Dc
    exact g4 _ (by omega)
  have hR : RELt s corner.toNatClampNeg lim.toInt m4 s2 := by
    refine ⟨fun X hX c hcc => ?_, fun X hX => ?_, ⟨by omega, by rw [hD 0 _ hp1 (by omega), if_pos (by omega)]⟩⟩
    · rw [hD X c hX hcc]
      by_cases q : 10 * X + c = corner.toNatClampNeg
      · rw [if_pos q]
        have hX0 : X = 0 := by omega
        have hcc2 : c = corner.toNatClampNeg := by omega
        refine Or.inr ⟨Int.le_refl _, by omega, fun v => ?_⟩
        rw [hcc2, Bool.xor_self, hX0]
        exact par_f (fun h _ => Nat.zero_testBit h)
      · rw [if_neg q]; exact Or.inl rfl
    · rw [p4 X, z0]
      by_cases q : X = 0
      · subst q
        rw [if_pos rfl]
        refine Or.inr ⟨corner.toNatClampNeg, by omega, ?_⟩
        rw [hD 0 _ hX (by omega), if_pos (by omega)]
        exact ⟨by omega, hl.1⟩
      · rw [if_neg q]
        refine Or.inl ⟨by rw [f3 X (by omega)]; exact L65535, fun c hcc => ?_⟩
        rw [hD X c hX hcc, if_neg (by omega)]
        unfold FARi; omega
  obtain ⟨m', s', b1, b2, b3, b4⟩ := e_39 (sm_w1 m 31 1 ((1 : Int32) <<< ((m.1 3 1) &&& 31))) s LB iB hJ hC h32 (show ((1 : Int32) <<< ((m.1 3 1) &&& 31)).toInt = _ from eS) corner.toNatClampNeg lim hl sm_fu (0 : Int32) m4 s2 hT hR (by omega) (by omega) (by omega)
  refine ⟨m', s', ?_, ?_, b3, b4, eS⟩
  · unfold fX10_explore fX3_fillWithForever
    rw [f1, Option.bind_some, p1, Option.bind_some]
    exact b1
  · unfold fX12_laysOut
    rw [g1]; exact b2
/-- worth of a set, in both -/
theorem e_worth {m s : sm_S} (hL : XL m s) (hI : zI m) (X : Int32) : ∀ (n : Nat) (v2 v3 : Int32), 0 ≤ v3.toInt → v3.toInt ≤ (m.1 3 1).toInt → (m.1 3 1).toInt - v3.toInt < (n : Int) → 0 ≤ v2.toInt → v2.toInt ≤ 9 * v3.toInt → ∃ W : Int32, fX2_worthOf_4 n X v2 v3 m = some W ∧ fX12_worthOf_4 n X v2 v3 s = some W ∧ 0 ≤ W.toInt ∧ W.toInt ≤ 126 := by
  have l0 := L0
  have l1 := L1
  have c31 : 0 ≤ (m.1 3 1).toInt ∧ (m.1 3 1).toInt ≤ 14 := hI.1 3 1
  have e31 := hL.hedge
  intro n
  induction n with
  | zero => intro v2 v3 h0 h1 hn; have hz : ((0 : Nat) : Int) = 0 := rfl; omega
  | succ n ih =>
    intro v2 v3 h0 h1 hn h2 h3
    have hnn : ((n + 1 : Nat) : Int) = (n : Int) + 1 := by omega
    have et := a_tn h0
    by_cases g : (m.1 3 1) ≤ v3
    · refine ⟨v2, ?_, ?_, h2, by omega⟩
      · conv => lhs; unfold fX2_worthOf_4
        rw [if_pos g]
      · conv => lhs; unfold fX12_worthOf_4
        rw [if_pos (by rw [← hL.1.2.1]; exact g)]
    · have g' := Int.not_le.mp (fun z => g (leI.mpr z))
      have gs : ¬ (s.1 72 6) ≤ v3 := by rw [← hL.1.2.1]; exact g
      have e3 : (v3 + (1 : Int32)).toInt = v3.toInt + 1 := a_addl L1 (by omega) (by omega)
      have hh := b_has (x := X) h0 (show v3.toInt < 32 by omega)
      have h00 := b_has0 (x := X) h0 (show v3.toInt < 32 by omega)
      have hv14 : 0 ≤ v3.toInt ∧ v3.toInt < ((14 : Nat) : Int) := by omega
      obtain ⟨-, -, -, -, -, q6, -⟩ := hL.row h0 g'
      have c11 : 0 ≤ (m.1 11 v3.toNatClampNeg).toInt ∧ (m.1 11 v3.toNatClampNeg).toInt ≤ 9 := hI.1 11 _
      by_cases q : ((X >>> (v3 &&& 31)) &&& (1 : Int32)) = (1 : Int32)
      · have q0 : ¬ ((X >>> (v3 &&& 31)) &&& (1 : Int32)) = 0 := by rw [q]; decide
        have ea : (v2 + (m.1 11 v3.toNatClampNeg)).toInt = v2.toInt + (m.1 11 v3.toNatClampNeg).toInt := a_add (by omega) (by omega)
        obtain ⟨W, a1, a2, a3⟩ := ih (v2 + (m.1 11 v3.toNatClampNeg)) (v3 + (1 : Int32)) (by omega) (by omega) (by omega) (by omega) (by omega)
        refine ⟨W, ?_, ?_, a3⟩
        · rw [← a1]
          conv => lhs; unfold fX2_worthOf_4
          rw [if_neg g, if_neg q0, if_pos (ix_in hv14)]
        · rw [← a2]
          conv => lhs; unfold fX12_worthOf_4
          unfold fX12_has
          rw [if_neg gs, if_pos q, Option.bind_some, if_neg (show ¬ ((1 : Int32) = 0) by decide), if_pos (ix_in hv14), q6]
      · have q0 : ((X >>> (v3 &&& 31)) &&& (1 : Int32)) = 0 := by
          refine h00.mpr ?_
          cases hb : bt X v3.toNatClampNeg with
          | false => rfl
          | true => exact absurd (hh.mpr hb) q
        obtain ⟨W, a1, a2, a3⟩ := ih v2 (v3 + (1 : Int32)) (by omega) (by omega) (by omega) h2 (by omega)
        refine ⟨W, ?_, ?_, a3⟩
        · rw [← a1]
          conv => lhs; unfold fX2_worthOf_4
          rw [if_neg g, if_pos q0]
        · rw [← a2]
          conv => lhs; unfold fX12_worthOf_4
          unfold fX12_has
          rw [if_neg gs, if_neg q, Option.bind_some, if_pos rfl, Int32.add_zero]
theorem s_worth {m s : sm_S} (hL : XL m s) (hI : zI m) (X : Int32) : ∃ W : Int32, fX2_worthOf X m = some W ∧ fX12_worthOf X s = some W ∧ 0 ≤ W.toInt ∧ W.toInt ≤ 126 := by
  have l0 := L0
  have hfu := fuE
  have c31 : 0 ≤ (m.1 3 1).toInt ∧ (m.1 3 1).toInt ≤ 14 := hI.1 3 1
  exact e_worth hL hI X sm_fu (0 : Int32) (0 : Int32) (by omega) (by omega) (by omega) (by omega) (by omega)
/-- the reference's least over the corners that count -/
theorem e_soonest (s : sm_S) (hJ : zI s) (X e : Int32) (hX : 0 ≤ X.toInt ∧ X.toInt < 16384) : ∀ (n : Nat) (v3 v4 : Int32), 0 ≤ v4.toInt → v4.toInt ≤ (s.1 72 3).toInt → (s.1 72 3).toInt - v4.toInt < (n : Int) → v3.toInt ≤ FARi → (∀ c : Nat, (c : Int) < v4.toInt → (e.toInt < 0 ∨ e.toInt = (c : Int)) → v3.toInt ≤ Dc s X.toNatClampNeg c) → (v3.toInt = FARi ∨ ∃ c : Nat, c < nC s ∧ (e.toInt < 0 ∨ e.toInt = (c : Int)) ∧ v3.toInt = Dc s X.toNatClampNeg c) → Sf (fun r => r.toInt ≤ FARi ∧ (∀ c : Nat, c < nC s → (e.toInt < 0 ∨ e.toInt = (c : Int)) → r.toInt ≤ Dc s X.toNatClampNeg c) ∧ (r.toInt = FARi ∨ ∃ c : Nat, c < nC s ∧ (e.toInt < 0 ∨ e.toInt = (c : Int)) ∧ r.toInt = Dc s X.toNatClampNeg c)) (fX12_soonest_7 n X e v3 v4 s) := by
  have l0 := L0
  have l10 := L10
  obtain ⟨eH, eC, bH, bC⟩ := t_n hJ
  have etX := a_tn hX.1
  intro n
  induction n with
  | zero => intro v3 v4 h0 h1 hn; have hz : ((0 : Nat) : Int) = 0 := rfl; omega
  | succ n ih =>
    intro v3 v4 h0 h1 hn hf hb he
    have hnn : ((n + 1 : Nat) : Int) = (n : Int) + 1 := by omega
    have et := a_tn h0
    unfold fX12_soonest_7
    refine s_le (fun g => s_ret ⟨hf, fun c hc => hb c (by omega), he⟩) (fun g => ?_)
    have e4 : (v4 + (1 : Int32)).toInt = v4.toInt + 1 := a_addl L1 (by omega) (by omega)
    have ei1 : ((10 : Int32) * X).toInt = 10 * X.toInt := a_mul L10 rfl (by omega) (by omega)
    have ei : (((10 : Int32) * X) + v4).toInt = 10 * X.toInt + v4.toInt := by rw [a_add (by omega) (by omega), ei1]
    have eit := a_tn (x := (((10 : Int32) * X) + v4)) (by omega)
    have hx : 0 ≤ (((10 : Int32) * X) + v4).toInt ∧ (((10 : Int32) * X) + v4).toInt < ((163840 : Nat) : Int) := by omega
    have hD : Dc s X.toNatClampNeg v4.toNatClampNeg = (s.1 98 (((10 : Int32) * X) + v4).toNatClampNeg).toInt := by
      unfold Dc
      rw [show (((10 : Int32) * X) + v4).toNatClampNeg = 10 * X.toNatClampNeg + v4.toNatClampNeg by omega]
    have ci : ((s.1 98 (((10 : Int32) * X) + v4).toNatClampNeg).toInt < v3.toInt ∧ (if (s.1 98 (((10 : Int32) * X) + v4).toNatClampNeg) < v3 then (s.1 98 (((10 : Int32) * X) + v4).toNatClampNeg) else v3).toInt = (s.1 98 (((10 : Int32) * X) + v4).toNatClampNeg).toInt) ∨ (v3.toInt ≤ (s.1 98 (((10 : Int32) * X) + v4).toNatClampNeg).toInt ∧ (if (s.1 98 (((10 : Int32) * X) + v4).toNatClampNeg) < v3 then (s.1 98 (((10 : Int32) * X) + v4).toNatClampNeg) else v3).toInt = v3.toInt) := a_ilt
    generalize (if (s.1 98 (((10 : Int32) * X) + v4).toNatClampNeg) < v3 then (s.1 98 (((10 : Int32) * X) + v4).toNatClampNeg) else v3) = V at ci ⊢
    have go : (e.toInt < 0 ∨ e.toInt = v4.toInt) → Sf (fun r => r.toInt ≤ FARi ∧ (∀ c : Nat, c < nC s → (e.toInt < 0 ∨ e.toInt = (c : Int)) → r.toInt ≤ Dc s X.toNatClampNeg c) ∧ (r.toInt = FARi ∨ ∃ c : Nat, c < nC s ∧ (e.toInt < 0 ∨ e.toInt = (c : Int)) ∧ r.toInt = Dc s X.toNatClampNeg c)) (fX12_soonest_7 n X e V (v4 + (1 : Int32)) s) := by
      intro hc
      refine ih V (v4 + (1 : Int32)) (by omega) (by omega) (by omega) (by rcases ci with ⟨z1, z2⟩ | ⟨z1, z2⟩ <;> omega) (fun c hcc hce => ?_) ?_
      · by_cases q : c = v4.toNatClampNeg
        · subst q
          rw [hD]
          rcases ci with ⟨z1, z2⟩ | ⟨z1, z2⟩ <;> omega
        · have := hb c (by omega) hce
          rcases ci with ⟨z1, z2⟩ | ⟨z1, z2⟩ <;> omega
      · rcases ci with ⟨z1, z2⟩ | ⟨z1, z2⟩
        · exact Or.inr ⟨v4.toNatClampNeg, by omega, by rw [et]; exact hc, by rw [hD]; exact z2⟩
        · rcases he with z | ⟨c, y1, y2, y3⟩
          · exact Or.inl (by omega)
          · exact Or.inr ⟨c, y1, y2, by omega⟩
    refine s_lt (fun g2 => s_ix hx (go (by omega))) (fun g2 => ?_)
    refine s_eq (fun g3 => s_ix hx (go (by omega))) (fun g3 => ?_)
    refine ih v3 (v4 + (1 : Int32)) (by omega) (by omega) (by omega) hf (fun c hcc hce => ?_) he
    by_cases q : c = v4.toNatClampNeg
    · subst q; omega
    · exact hb c (by omega) hce
/-- a set's entry in the class, and what the reference finds for it -/
theorem ent (m s s0 : sm_S) (x : Nat) (lim : Int) (hl : 0 ≤ lim ∧ lim ≤ 9999) (hn : nC s = nC s0) (hC10 : nC s0 ≤ 10) (hR : RELt s0 x lim m s) {X : Nat} (hX : X < 2 ^ nH s0) {e r : Int} (he : e < 0 ∨ e = (x : Int)) (hr : r ≤ FARi ∧ (∀ c : Nat, c < nC s → (e < 0 ∨ e = (c : Int)) → r ≤ Dc s X c) ∧ (r = FARi ∨ ∃ c : Nat, c < nC s ∧ (e < 0 ∨ e = (c : Int)) ∧ r = Dc s X c)) : ((ln1 m X).toInt = 65535 ∧ lim < r) ∨ ((ln1 m X).toInt < 65535 ∧ ((0 ≤ e ∧ (ln1 m X).toInt % 16 ≠ (x : Int) ∧ lim < r) ∨ ((e < 0 ∨ (ln1 m X).toInt % 16 = (x : Int)) ∧ r = (ln1 m X).toInt / 16 ∧ r ≤ lim))) := by
  have hp := pN_le X
  obtain ⟨r1, r2, r3⟩ := hr
  rw [hn] at r2 r3
  rcases hR.2.1 X hX with ⟨z1, z2⟩ | ⟨c, hc, z1, z2⟩
  · refine Or.inl ⟨z1, ?_⟩
    rcases r3 with r3 | ⟨d, hd, -, r3⟩
    · unfold FARi at r3; omega
    · have := z2 d hd; omega
  · have hfin := hR.1 X hX c hc
    have hf2 : 0 ≤ Dc s X c ∧ Dc s X c ≤ 29 * ((pN X : Nat) : Int) := by
      rcases hfin with z | z
      · unfold FARi at z; omega
      · exact ⟨z.1, z.2.1⟩
    refine Or.inr ⟨by omega, ?_⟩
    have ediv : (ln1 m X).toInt / 16 = Dc s X c := by omega
    have emod : (ln1 m X).toInt % 16 = (c : Int) := by omega
    by_cases q : e < 0
    · refine Or.inr ⟨Or.inl q, ?_⟩
      have a := r2 c hc (Or.inl q)
      rcases r3 with r3 | ⟨d, hd, -, r3⟩
      · unfold FARi at r3; omega
      · have hdc : d = c := hR.uni hX hd hc (by unfold FARi; omega) (by unfold FARi; omega)
        subst hdc
        omega
    · have he2 : e = (x : Int) := he.resolve_left q
      by_cases qc : c = x
      · subst qc
        refine Or.inr ⟨Or.inr emod, ?_⟩
        have a := r2 c hc (Or.inr he2)
        rcases r3 with r3 | ⟨d, hd, hde, r3⟩
        · unfold FARi at r3; omega
        · have hdc : d = c := by omega
          subst hdc
          omega
      · refine Or.inl ⟨by omega, by omega, ?_⟩
        rcases r3 with r3 | ⟨d, hd, hde, r3⟩
        · unfold FARi at r3; omega
        · have hdx : d = x := by omega
          by_cases hfx : Dc s X d = FARi
          · unfold FARi at hfx; omega
          · exact absurd ((hR.uni hX hc hd (by unfold FARi; omega) hfx).trans hdx) qc
theorem v_most12 (m s : sm_S) (hL : XL m s) (hI : zI m) (hJ : zI s) (h32 : (m.1 32 0).toInt = 16384) (s0 : sm_S) (corner lim : Int32) (back e : Int32) (hl : 0 ≤ lim.toInt ∧ lim.toInt ≤ 9999) (hn : nC s = nC s0) (hnH : nH s = nH s0) (hC10 : nC s0 ≤ 10) (hR : RELt s0 corner.toNatClampNeg lim.toInt m s) (hc0 : 0 ≤ corner.toInt) (h31 : (m.1 31 1).toInt = ((2 ^ nH s0 : Nat) : Int)) (hbe : (back = 0 ∧ e = (-1 : Int32)) ∨ (back = 1 ∧ e = corner)) : ∀ (n n' : Nat) (v4 v5 v6 v7 : Int32), 0 ≤ v7.toInt → v7.toInt ≤ ((2 ^ nH s0 : Nat) : Int) → ((2 ^ nH s0 : Nat) : Int) - v7.toInt < (n : Int) ∧ ((2 ^ nH s0 : Nat) : Int) - v7.toInt < (n' : Int) → 0 ≤ v4.toInt → v4.toInt < ((2 ^ nH s0 : Nat) : Int) → fX2_worthOf v4 m = some v5 → 0 ≤ v5.toInt ∧ v5.toInt ≤ 126 → v6.toInt = (ln1 m v4.toNatClampNeg).toInt / 16 → TR (fun best b => fX2_worthOf best m = some b.1 ∧ 0 ≤ best.toInt ∧ best.toInt < ((2 ^ nH s0 : Nat) : Int)) (fX10_dearest_9 n corner back v4 v5 v7 m) (fX12_mostBy_17 n' lim e v4 v5 v6 v7 s) := by
  have l0 := L0
  have l1 := L1
  have ln1' := Ln1
  have l65535 := L65535
  have hfu := fuE
  have etc := a_tn hc0
  have cH : 0 ≤ (s.1 72 6).toInt ∧ (s.1 72 6).toInt ≤ 14 := hJ.1 72 6
  obtain ⟨eH, eC, bH, bC⟩ := t_n hJ
  have hpb := pow_b (H := nH s0) (by omega)
  have hp1 : 0 < 2 ^ nH s0 := Nat.two_pow_pos _
  have c32 := h32
  have eA : fX12_allHedges s = some (((1 : Int32) <<< ((s.1 72 6) &&& 31)) - (1 : Int32)) := rfl
  have eS : (((1 : Int32) <<< ((s.1 72 6) &&& 31)) - (1 : Int32)).toInt = ((2 ^ nH s0 : Nat) : Int) - 1 := by
    have e1 : ((1 : Int32) <<< ((s.1 72 6) &&& 31)).toInt = ((2 ^ (s.1 72 6).toNatClampNeg : Nat) : Int) := a_shlE cH.1 (by omega)
    have e2 : (s.1 72 6).toNatClampNeg = nH s0 := hnH
    rw [e2] at e1
    rw [a_subl L1 (by omega) (by omega), e1]
  intro n
  induction n with
  | zero => intro n' v4 v5 v6 v7 h0 h1 hn2; have hz : ((0 : Nat) : Int) = 0 := rfl; omega
  | succ n ih =>
    intro n' v4 v5 v6 v7 h0 h1 hn2 h4 h4' hw hwb h6
    obtain ⟨k', rfl⟩ : ∃ k', n' = k' + 1 := ⟨n' - 1, by omega⟩
    have hkk : ((k' + 1 : Nat) : Int) = (k' : Int) + 1 := by omega
    have hnn : ((n + 1 : Nat) : Int) = (n : Int) + 1 := by omega
    have et := a_tn h0
    have et4 := a_tn h4
    unfold fX10_dearest_9 fX12_mostBy_17
    rw [eA, Option.bind_some]
    refine tl_le (fun g => tr_lt (fun _ => ?_) (fun g' => by omega)) (fun g => tr_lt (fun g' => by omega) (fun _ => ?_))
    · have i1 : zI (sm_w1 s 72 1 (0 : Int32)) := zI.w hJ rfl (show 0 ≤ (0 : Int32).toInt ∧ (0 : Int32).toInt ≤ 24 by omega)
      have e1 : ((sm_w1 s 72 1 (0 : Int32)).1 72 1).toInt = 0 := l0
      refine tr_bd (zX12_enters v4 _ (by omega) i1) (fun m6 h6' => ?_)
      exact tr_bd (zX12_enters v6 m6 (by omega) h6'.2.1) (fun m8 _ => t_ret ⟨hw, h4, h4'⟩)
    · have e7 : (v7 + (1 : Int32)).toInt = v7.toInt + 1 := a_addl L1 (by omega) (by omega)
      have hlane := ln1_b m v7.toNatClampNeg
      have hlane4 := ln1_b m v4.toNatClampNeg
      rw [e_at1 hI h0 (by omega), Option.bind_some]
      have next : ∀ (a b c : Int32), 0 ≤ a.toInt → a.toInt < ((2 ^ nH s0 : Nat) : Int) → fX2_worthOf a m = some b → 0 ≤ b.toInt ∧ b.toInt ≤ 126 → c.toInt = (ln1 m a.toNatClampNeg).toInt / 16 → TR (fun best b => fX2_worthOf best m = some b.1 ∧ 0 ≤ best.toInt ∧ best.toInt < ((2 ^ nH s0 : Nat) : Int)) (fX10_dearest_9 n corner back a b (v7 + (1 : Int32)) m) (fX12_mostBy_17 k' lim e a b c (v7 + (1 : Int32)) s) := fun a b c z1 z2 z3 z4 z5 => ih k' a b c (v7 + (1 : Int32)) (by omega) (by omega) ⟨by omega, by omega⟩ z1 z2 z3 z4 z5
      have hso : Sf (fun r => r.toInt ≤ FARi ∧ (∀ c : Nat, c < nC s → (e.toInt < 0 ∨ e.toInt = (c : Int)) → r.toInt ≤ Dc s v7.toNatClampNeg c) ∧ (r.toInt = FARi ∨ ∃ c : Nat, c < nC s ∧ (e.toInt < 0 ∨ e.toInt = (c : Int)) ∧ r.toInt = Dc s v7.toNatClampNeg c)) (fX12_soonest v7 e s) := by
        have lm := L1000000
        have c3 : 0 ≤ (s.1 72 3).toInt ∧ (s.1 72 3).toInt ≤ 10 := hJ.1 72 3
        exact e_soonest s hJ v7 e ⟨h0, by omega⟩ sm_fu (1000000 : Int32) (0 : Int32) (by omega) (by omega) (by omega) (by unfold FARi; omega) (fun c hc => by omega) (Or.inl (by unfold FARi; exact lm))
      obtain ⟨r10, er10, hr10⟩ := hso
      rw [er10, Option.bind_some]
      have he : e.toInt < 0 ∨ e.toInt = (corner.toNatClampNeg : Int) := by
        rcases hbe with ⟨-, z⟩ | ⟨-, z⟩
        · exact Or.inl (by rw [z, ln1']; decide)
        · exact Or.inr (by rw [z]; omega)
      have key := ent m s s0 corner.toNatClampNeg lim.toInt hl hn hC10 hR (X := v7.toNatClampNeg) (by omega) he hr10
      obtain ⟨u1, u2⟩ := unpack hlane
      obtain ⟨w1, w2⟩ := unpack hlane4
      obtain ⟨W, eW1, eW2, hW⟩ := s_worth hL hI v7
      -- both look at the set
      have take : r10.toInt = (ln1 m v7.toNatClampNeg).toInt / 16 → TR (fun best b => fX2_worthOf best m = some b.1 ∧ 0 ≤ best.toInt ∧ best.toInt < ((2 ^ nH s0 : Nat) : Int)) (if v5 < W then (fX10_dearest_9 n corner back v7 W (v7 + (1 : Int32)) m) else (if W = v5 then ((fX10_minutesOf v7 m).bind fun r6 => (fX10_minutesOf v4 m).bind fun r8 => if r8 ≤ r6 then (fX10_dearest_9 n corner back v4 v5 (v7 + (1 : Int32)) m) else (fX10_dearest_9 n corner back v7 W (v7 + (1 : Int32)) m)) else (fX10_dearest_9 n corner back v4 v5 (v7 + (1 : Int32)) m))) ((fX12_worthOf v7 s).bind fun r12 => if 0 < (r12 - v5) then ((fX12_worthOf v7 s).bind fun r14 => fX12_mostBy_17 k' lim e v7 r14 r10 (v7 + (1 : Int32)) s) else (if (r12 - v5) = 0 then (if v6 ≤ r10 then (fX12_mostBy_17 k' lim e v4 v5 v6 (v7 + (1 : Int32)) s) else ((fX12_worthOf v7 s).bind fun r16 => fX12_mostBy_17 k' lim e v7 r16 r10 (v7 + (1 : Int32)) s)) else (fX12_mostBy_17 k' lim e v4 v5 v6 (v7 + (1 : Int32)) s))) := by
        intro hr
        have ed : (W - v5).toInt = W.toInt - v5.toInt := a_sub (by omega) (by omega)
        rw [eW2, Option.bind_some]
        refine tl_lt (fun g1 => tr_lt (fun _ => ?_) (fun z => by omega)) (fun g1 => tr_lt (fun z => by omega) (fun _ => ?_))
        · rw [Option.bind_some]
          exact next v7 W r10 h0 (by omega) eW1 hW hr
        · refine tl_eq (fun g2 => tr_eq (fun _ => ?_) (fun z => by omega)) (fun g2 => tr_eq (fun z => by omega) (fun _ => next v4 v5 v6 h4 h4' hw hwb h6))
          unfold fX10_minutesOf
          rw [e_at1 hI h0 (by omega), Option.bind_some, Option.bind_some, e_at1 hI h4 (by omega), Option.bind_some, Option.bind_some]
          refine tl_le (fun g3 => tr_le (fun _ => next v4 v5 v6 h4 h4' hw hwb h6) (fun z => by omega)) (fun g3 => tr_le (fun z => by omega) (fun _ => ?_))
          rw [Option.bind_some]
          exact next v7 W r10 h0 (by omega) eW1 hW hr
      refine tl_le (fun g1 => ?_) (fun g1 => ?_)
      · refine tr_le (fun z => ?_) (fun _ => next v4 v5 v6 h4 h4' hw hwb h6)
        rcases key with ⟨-, k⟩ | ⟨k, -⟩ <;> omega
      · rcases key with ⟨k, -⟩ | ⟨k1, k2⟩
        · omega
        · rcases hbe with ⟨b1, b2⟩ | ⟨b1, b2⟩
          · rw [if_pos b1, eW1, Option.bind_some]
            have en : e.toInt < 0 := by rw [b2, ln1']; decide
            rcases k2 with ⟨k, -⟩ | ⟨-, k3, k4⟩
            · omega
            · exact tr_le (fun _ => take k3) (fun z => by omega)
          · rw [if_neg (show ¬ back = 0 by rw [b1]; decide)]
            have en : e.toInt = corner.toInt := by rw [b2]
            refine tl_eq (fun g2 => ?_) (fun g2 => ?_)
            · rw [eW1, Option.bind_some]
              rcases k2 with ⟨-, k3, -⟩ | ⟨-, k3, k4⟩
              · omega
              · exact tr_le (fun _ => take k3) (fun z => by omega)
            · rcases k2 with ⟨-, -, k3⟩ | ⟨k3, -⟩
              · exact tr_le (fun z => by omega) (fun _ => next v4 v5 v6 h4 h4' hw hwb h6)
              · omega
