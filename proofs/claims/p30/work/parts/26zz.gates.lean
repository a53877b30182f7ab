/-! gates -/
/-- the table's first row and the ways stay -/
def GZv (s0 m : sm_S) (v1 v2 : Int) : Prop := Fr [(98, 999)] s0 m ∧ (∀ c : Nat, c < nC s0 → (0 < v1 ∨ (v1 = 0 ∧ (c : Int) < v2)) → (m.1 98 c).toInt = 0)
theorem gz_53 {s0 : sm_S} (hJ : zI s0) {P : sm_S → Prop} (k30 : Int32 → Int32 → sm_S → Option sm_S) (k6 : Int32 → sm_S → Option sm_S) (v1 v2 : Int32) (h1 : 0 ≤ v1.toInt ∧ v1.toInt ≤ 16383) (h2 : 0 ≤ v2.toInt ∧ v2.toInt < (s0.1 72 3).toInt) (hk : ∀ m r, GZv s0 m v1.toInt (v2.toInt + 1) → k30 v1 (v2 + (1 : Int32)) m = some r → P r) : ∀ (n : Nat) (v3 v4 : Int32) (m r : sm_S), 0 ≤ v4.toInt → v4.toInt ≤ 14 → GZv s0 m v1.toInt v2.toInt → (v1.toInt = 0 → v3.toInt = 0) → fX12_laysOutGates_53 k30 k6 n v1 v2 v3 v4 m = some r → P r := by
  have l0 := L0
  obtain ⟨eH, eC, bH, bC⟩ := t_n hJ
  have t1 := a_tn h1.1
  have t2 := a_tn h2.1
  have ix := g_idx (X := v1) (c := v2) h1.1 h1.2 h2.1 (by omega)
  have tx := a_tn (x := ((10 : Int32) * v1) + v2) (by omega)
  intro n
  induction n with
  | zero => intro v3 v4 m r h0 hl hG hz h; cases h
  | succ n ih =>
    intro v3 v4 m r h0 hl hG hz h
    obtain ⟨hF, hZ⟩ := hG
    have e6 : m.1 72 6 = s0.1 72 6 := hF 72 6 rfl
    unfold fX12_laysOutGates_53 at h
    rw [e6] at h
    split at h
    · split at h
      · refine hk _ r ⟨Fr.w hF rfl, fun c hc hp => ?_⟩ h
        by_cases q : c = (((10 : Int32) * v1) + v2).toNatClampNeg
        · subst q
          rw [r_hit]
          have : v1.toInt = 0 := by omega
          exact hz this
        · rw [r_place q]
          refine hZ c hc ?_
          rcases hp with hp | ⟨hp, hp2⟩
          · exact Or.inl hp
          · exact Or.inr ⟨hp, by omega⟩
      · cases h
    · next g =>
      have g' : v4.toInt < (s0.1 72 6).toInt := Int.not_le.mp (fun z => g (leI.mpr z))
      have e4 : (v4 + (1 : Int32)).toInt = v4.toInt + 1 := a_addl L1 (by omega) (by omega)
      obtain ⟨r7, e7, h⟩ := tds h
      obtain ⟨r7', e7', h7⟩ := zX12_has2 v1 v4 m (by omega)
      obtain rfl := Option.some.inj (e7.symm.trans e7')
      split at h
      · exact ih v3 (v4 + (1 : Int32)) m r (by omega) (by omega) ⟨hF, hZ⟩ hz h
      · next g2 =>
        obtain ⟨r9, e9, h⟩ := tds h
        refine ih _ (v4 + (1 : Int32)) m r (by omega) (by omega) ⟨hF, hZ⟩ (fun z => ?_) h
        have hb := has_t h7 (fun w => g2 (eqI.mpr (by rw [w]; exact l0.symm)))
        have e0 : v1 = 0 := eqI.mpr (by rw [z]; exact l0.symm)
        rw [e0, b_0] at hb
        cases hb
theorem gz_30 {s0 : sm_S} (hJ : zI s0) {P : sm_S → Prop} (k6 : Int32 → sm_S → Option sm_S) (v1 : Int32) (h1 : 0 ≤ v1.toInt ∧ v1.toInt ≤ 16383) (hk : ∀ m r, GZv s0 m (v1.toInt + 1) 0 → k6 (v1 + (1 : Int32)) m = some r → P r) : ∀ (n : Nat) (v2 : Int32) (m r : sm_S), 0 ≤ v2.toInt → v2.toInt ≤ (s0.1 72 3).toInt → GZv s0 m v1.toInt v2.toInt → fX12_laysOutGates_30 k6 n v1 v2 m = some r → P r := by
  have l0 := L0
  obtain ⟨eH, eC, bH, bC⟩ := t_n hJ
  intro n
  induction n with
  | zero => intro v2 m r h0 hl hG h; cases h
  | succ n ih =>
    intro v2 m r h0 hl hG h
    have e3 : m.1 72 3 = s0.1 72 3 := hG.1 72 3 rfl
    unfold fX12_laysOutGates_30 at h
    rw [e3] at h
    split at h
    · next g =>
      have g' := leI.mp g
      refine hk m r ⟨hG.1, fun c hc hp => hG.2 c hc ?_⟩ h
      by_cases z : 0 < v1.toInt
      · exact Or.inl z
      · exact Or.inr ⟨by omega, by omega⟩
    · next g =>
      have g' : v2.toInt < (s0.1 72 3).toInt := Int.not_le.mp (fun z => g (leI.mpr z))
      have e2 : (v2 + (1 : Int32)).toInt = v2.toInt + 1 := a_addl L1 (by omega) (by omega)
      have step : ∀ m r, GZv s0 m v1.toInt (v2.toInt + 1) → fX12_laysOutGates_30 k6 n v1 (v2 + (1 : Int32)) m = some r → P r := fun m r hG2 h2 => ih (v2 + (1 : Int32)) m r (by omega) (by omega) (by rw [e2]; exact hG2) h2
      split at h
      · exact gz_53 hJ _ k6 v1 v2 h1 ⟨h0, g'⟩ step sm_fu (0 : Int32) (0 : Int32) m r (by omega) (by omega) hG (fun _ => l0) h
      · next g2 =>
        exact gz_53 hJ _ k6 v1 v2 h1 ⟨h0, g'⟩ step sm_fu (1000000 : Int32) (0 : Int32) m r (by omega) (by omega) hG (fun z => absurd (eqI.mpr (by rw [z]; exact l0.symm)) g2) h
theorem gz_6 {s0 : sm_S} (hJ : zI s0) : ∀ (n : Nat) (v1 : Int32) (m r : sm_S), 0 ≤ v1.toInt → v1.toInt ≤ 16384 → GZv s0 m v1.toInt 0 → fX12_laysOutGates_6 n v1 m = some r → GZv s0 r 1 0 := by
  have l0 := L0
  obtain ⟨eH, eC, bH, bC⟩ := t_n hJ
  have cH : 0 ≤ (s0.1 72 6).toInt ∧ (s0.1 72 6).toInt ≤ 14 := hJ.1 72 6
  have hA := all_b cH.1 cH.2
  intro n
  induction n with
  | zero => intro v1 m r h0 hl hG h; cases h
  | succ n ih =>
    intro v1 m r h0 hl hG h
    have e6 : m.1 72 6 = s0.1 72 6 := hG.1 72 6 rfl
    unfold fX12_laysOutGates_6 fX12_allHedges at h
    rw [Option.bind_some, e6] at h
    split at h
    · next g =>
      obtain rfl := Option.some.inj h
      have g' := ltI.mp g
      exact ⟨hG.1, fun c hc _ => hG.2 c hc (Or.inl (by omega))⟩
    · next g =>
      have g' : v1.toInt ≤ (((1 : Int32) <<< ((s0.1 72 6) &&& 31)) - (1 : Int32)).toInt := Int.not_lt.mp (fun z => g (ltI.mpr z))
      have e1 : (v1 + (1 : Int32)).toInt = v1.toInt + 1 := a_addl L1 (by omega) (by omega)
      split at h
      · exact gz_30 hJ (fX12_laysOutGates_6 n) v1 ⟨h0, by omega⟩ (fun m r hG2 h2 => ih (v1 + (1 : Int32)) m r (by omega) (by omega) (by rw [e1]; exact hG2) h2) sm_fu (0 : Int32) m r (by omega) (by omega) (by rw [l0]; exact hG) h
      · next g2 =>
        refine ih (v1 + (1 : Int32)) m r (by omega) (by omega) ?_ h
        refine ⟨hG.1, fun c hc hp => hG.2 c hc (Or.inl ?_)⟩
        by_cases z : v1.toInt = 0
        · refine absurd ?_ g2
          have e0 : v1 = 0 := eqI.mpr (by rw [z]; exact l0.symm)
          rw [e0]
          exact b_ext (fun i hi => by rw [b_and, b_0, Bool.false_and])
        · omega
theorem gD_same {s s' : sm_S} (h76 : ∀ j, s'.1 76 j = s.1 76 j) (h77 : ∀ j, s'.1 77 j = s.1 77 j) (h78 : ∀ j, s'.1 78 j = s.1 78 j) (h82 : ∀ j, s'.1 82 j = s.1 82 j) (h6 : s'.1 72 6 = s.1 72 6) (h3 : s'.1 72 3 = s.1 72 3) (h14 : s'.1 72 14 = s.1 72 14) : gD s' = gD s ∧ nC s' = nC s := by
  have e1 : ta s' = ta s := funext (fun h => by unfold ta; rw [h76])
  have e2 : tb s' = tb s := funext (fun h => by unfold tb; rw [h77])
  have e3 : nH s' = nH s := by unfold nH; rw [h6]
  have e4 : nC s' = nC s := by unfold nC; rw [h3]
  have e5 : gS s' = gS s := by unfold gS; rw [h14]
  have e6 : gW1 s' = gW1 s := funext (fun h => by unfold gW1; rw [h78])
  have e7 : gW2 s' = gW2 s := funext (fun h => by unfold gW2; rw [h78, h82])
  refine ⟨?_, e4⟩
  unfold gD
  rw [e1, e2, e3, e4, e5, e6, e7]
theorem s_glo {s : sm_S} (hJ : zI s) (hC : zC s) : Sf (fun r => zI r ∧ zC r ∧ Fr wX12_laysOutGates s r ∧ TTq r) (fX12_laysOutGates s) := by
  have l0 := L0
  obtain ⟨eH, eC, bH, bC⟩ := t_n hJ
  obtain ⟨r, er, ⟨jr, Fr', T⟩, Cr⟩ := zgl s hJ hC
  refine ⟨r, er, jr, Cr, Fr', ?_, T, ?_⟩
  · have e := er
    unfold fX12_laysOutGates at e
    obtain ⟨m2, e2, e⟩ := tds e
    obtain ⟨m2', e2', i2, F2, V2⟩ := s_far hJ hC
    obtain rfl := Option.some.inj (e2.symm.trans e2')
    obtain ⟨G1, G2⟩ := gz_6 i2 sm_fu (0 : Int32) m2 r (by omega) (by omega) ⟨Fr.refl, fun c hc hp => by omega⟩ e
    obtain ⟨q1, q2⟩ := gD_same (s := s) (s' := r) (fun j => Fr' 76 j rfl) (fun j => Fr' 77 j rfl) (fun j => Fr' 78 j rfl) (fun j => Fr' 82 j rfl) (Fr' 72 6 rfl) (Fr' 72 3 rfl) (Fr' 72 14 rfl)
    intro x y hx hy
    rw [q2] at hx hy
    rw [q1, ← V2 x y hx hy]
    unfold fcl
    rw [G1 99 _ rfl]
  · have e := er
    unfold fX12_laysOutGates at e
    obtain ⟨m2, e2, e⟩ := tds e
    obtain ⟨m2', e2', i2, F2, V2⟩ := s_far hJ hC
    obtain rfl := Option.some.inj (e2.symm.trans e2')
    obtain ⟨G1, G2⟩ := gz_6 i2 sm_fu (0 : Int32) m2 r (by omega) (by omega) ⟨Fr.refl, fun c hc hp => by omega⟩ e
    intro c hc
    have c1 : 0 ≤ c.toInt := hc.1
    have c2 : c.toInt < (r.1 72 3).toInt := hc.2
    have tc := a_tn c1
    have e3 : (r.1 72 3).toInt = (m2.1 72 3).toInt := congrArg Int32.toInt (G1 72 3 rfl)
    obtain ⟨eH2, eC2, bH2, bC2⟩ := t_n i2
    have ix := g_idx (X := (0 : Int32)) (c := c) (by omega) (by omega) c1 (by omega)
    have tx := a_tn (x := ((10 : Int32) * (0 : Int32)) + c) (by omega)
    unfold gL
    rw [show (((10 : Int32) * (0 : Int32)) + c).toNatClampNeg = c.toNatClampNeg by omega]
    exact G2 c.toNatClampNeg (by omega) (Or.inl (by decide))
theorem v_g88 (k : Nat) : ∀ (n : Nat) (v2 v3 : Int32) (m : sm_S) (r : Int32 × sm_S), fX12_gates_88 n v2 v3 m = some r → r.1 = v2 := by
  have l95 : ∀ (k88 : Int32 → Int32 → sm_S → Option (Int32 × sm_S)) (v2 : Int32), (∀ v3 m r, k88 v2 v3 m = some r → r.1 = v2) → ∀ (n : Nat) (v3 v4 : Int32) (m : sm_S) (r : Int32 × sm_S), fX12_gates_95 k88 n v2 v3 v4 m = some r → r.1 = v2 := by
    intro k88 v2 hk n
    induction n with
    | zero => intro v3 v4 m r h; cases h
    | succ n ih =>
      intro v3 v4 m r h
      unfold fX12_gates_95 at h
      obtain ⟨r7, e7, h⟩ := tds h
      split at h
      · exact ih _ _ _ _ h
      · obtain ⟨r9, e9, h⟩ := tds h
        split at h
        · exact ih _ _ _ _ h
        · obtain ⟨m11, e11, h⟩ := tds h
          obtain ⟨m13, e13, h⟩ := tds h
          exact hk _ _ _ h
  intro n
  induction n with
  | zero => intro v2 v3 m r h; cases h
  | succ n ih =>
    intro v2 v3 m r h
    unfold fX12_gates_88 at h
    split at h
    · obtain rfl := Option.some.inj h; rfl
    · exact l95 _ v2 (fun v3 m r h => ih v2 v3 m r h) _ _ _ _ _ h
theorem v_g46 : ∀ (n : Nat) (v1 v2 v3 : Int32) (m : sm_S) (r : Int32 × sm_S), fX12_gates_46 n v1 v2 v3 m = some r → r.1 = v2 := by
  intro n
  induction n with
  | zero => intro v1 v2 v3 m r h; cases h
  | succ n ih =>
    intro v1 v2 v3 m r h
    unfold fX12_gates_46 at h
    split at h
    · exact v_g88 0 _ _ _ _ _ h
    · split at h
      · split at h
        · exact ih _ _ _ _ _ h
        · cases h
      · split at h
        · exact ih _ _ _ _ _ h
        · cases h
theorem tn_gates {x1 : Int32} {m s : sm_S} (hR : RX m s) (hI : zI m) (hJ : zI s) (hC : zC s) (hK : NK m) : TR (fun a b => a.1 = b.1) (fX11_gates x1 m) (fX12_gates x1 s) := by
  have l0 := L0
  have lM := L1000000
  have ln2 : (-2 : Int32).toInt = -2 := by decide
  have F0 : Fr [(72, 0)] s (sm_w1 s 72 0 (0 : Int32)) := Fr.w Fr.refl rfl
  have i0 : zI (sm_w1 s 72 0 (0 : Int32)) := zI.w hJ rfl (show 0 ≤ (0 : Int32).toInt ∧ (0 : Int32).toInt ≤ 1 by omega)
  have hL0 : XL m (sm_w1 s 72 0 (0 : Int32)) := hR.2.1.fr (W := []) Fr.refl F0 rfl
  have hC0 : zC (sm_w1 s 72 0 (0 : Int32)) := hC.fr F0 rfl
  obtain ⟨b, eb, -⟩ := zX12_gates x1 s hJ hC
  have eb2 := eb
  unfold fX11_gates
  unfold fX12_gates at eb2
  rw [eb]
  generalize sm_w1 s 72 0 (0 : Int32) = S0 at i0 hL0 hC0 eb2
  have e30 := hL0.corner
  have c30 : 0 ≤ (m.1 3 0).toInt ∧ (m.1 3 0).toInt ≤ 10 := hI.1 3 0
  obtain ⟨p, ep, -, -, hp⟩ := zX2_hasCorner x1 m hI
  obtain ⟨q, eq, -, -, hq⟩ := zX12_isCorner x1 S0 i0
  rw [eq, Option.bind_some] at eb2
  rw [ep, Option.bind_some]
  refine tl_eq (fun g => ?_) (fun g => ?_)
  · rw [if_pos (eqI.mpr (show q.toInt = (0 : Int32).toInt by omega))] at eb2
    obtain rfl := Option.some.inj eb2
    exact t_ret rfl
  · rw [if_neg (fun z => by have := eqI.mp z; omega)] at eb2
    obtain ⟨r, er, jr, Cr, Frr, TT⟩ := s_glo i0 hC0
    rw [er, Option.bind_some] at eb2
    have hLr : XL m r := hL0.fr (W := []) Fr.refl Frr rfl
    have e3r : (r.1 72 3).toInt = (S0.1 72 3).toInt := congrArg Int32.toInt (Frr 72 3 rfl)
    have hc : gC r x1 := ⟨by omega, by omega⟩
    have c14 : 0 ≤ (r.1 72 14).toInt ∧ (r.1 72 14).toInt ≤ 16383 := jr.1 72 14
    have ix := g_idx (X := r.1 72 14) (c := x1) c14.1 c14.2 (by omega) (by omega)
    rw [if_pos (ix_in (show 0 ≤ (((10 : Int32) * (r.1 72 14)) + x1).toInt ∧ (((10 : Int32) * (r.1 72 14)) + x1).toInt < ((163840 : Nat) : Int) by omega))] at eb2
    have eL : gL r (r.1 72 14) x1 = (r.1 98 (((10 : Int32) * (r.1 72 14)) + x1).toNatClampNeg).toInt := rfl
    refine tl_bd (s_prep hLr hI jr Cr) (fun M hM => ?_)
    have hKM : (M.1 49 0).toInt = 16384 := by rw [hM.2.2.1 49 0 rfl]; exact hK.2.2
    refine tl_bd (s_few hM jr Cr TT hKM hc) (fun r6 h6 => ?_)
    obtain ⟨e61, h6⟩ := h6
    have i6 : zI r6.2 := zI.same0 hM.2.1 e61
    refine tl_le (fun g6 => ?_) (fun g6 => ?_)
    · rcases h6 with ⟨z, -⟩ | ⟨z1, z2⟩
      · omega
      · rw [if_pos (ltI.mpr (by rw [← eL]; omega))] at eb2
        have := v_g46 _ _ _ _ _ _ eb2
        refine tl_bd (zX1_tellLeastOrder x1 r6.2 ⟨by omega, by omega⟩ i6) (fun m8 _ => t_ret (eqI.mpr ?_))
        show r6.1.toInt = b.1.toInt
        rw [this, z1, eL]
    · rcases h6 with ⟨-, z⟩ | ⟨z1, z2⟩
      · rw [if_neg (fun w => by have := ltI.mp w; omega)] at eb2
        obtain rfl := Option.some.inj eb2
        exact t_ret rfl
      · have := gL_b jr (r.1 72 14) x1
        omega
