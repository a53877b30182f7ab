/-! GATES, second half: the table, the walk -/
theorem zgo_2 (m0 : sm_S) (due : Int) (Lf : Int32 → Int) : ∀ (n : Nat) (v1 v2 : Int32) (m : sm_S), (0 ≤ v2.toInt ∧ v2.toInt ≤ 10 ∧ 10 - v2.toInt < (n : Int)) → gH m v1 → zC m → (∀ c : Int32, gC m c → (m.1 100 c.toNatClampNeg).toInt < 1000000 → gH1 m v1 due Lf c) → (∃ c : Int32, gC m c ∧ (m.1 100 c.toNatClampNeg).toInt < 1000000 ∧ gH2 m v1 due Lf c) → (∀ y : Int32, gC m y → y.toInt < v2.toInt → (m.1 101 y.toNatClampNeg).toInt = 1000000) → zI m → Fr wX12_goesThrough m0 m → Sf (fun r => zI r ∧ Fr wX12_goesThrough m0 r ∧ gPB 100 r due Lf ∧ gPC 100 r due Lf) (fX12_goesThrough_2 n v1 v2 m) := by
  intro n
  induction n with
  | zero => intro v1 v2 m hp hh hC h1 h2 hy hI hF; omega
  | succ n ih =>
    intro v1 v2 m hp hh hC h1 h2 hy hI hF
    have hnn : ((n + 1 : Nat) : Int) = (n : Int) + 1 := by omega
    have hfu := fuE
    have l0 := L0
    have lM := L1000000
    have cc : 0 ≤ (m.1 72 3).toInt ∧ (m.1 72 3).toInt ≤ 10 := hI.1 72 3
    unfold fX12_goesThrough_2
    refine s_le (fun h3 => ?_) (fun h3 => ?_)
    · obtain ⟨c, q1, q2, q3⟩ := h2
      refine zgo_27 m0 due Lf sm_fu v1 (0 : Int32) m (by omega) hh hC h1 (Or.inl ⟨c, q1, by have := q1.1; omega, q2, q3⟩) (fun x hx hl => ?_) hI hF
      have := hy x hx (by have := hx.2; omega)
      omega
    · have hx : 0 ≤ v2.toInt ∧ v2.toInt < (10 : Int) := by omega
      have e1 : (v2 + (1 : Int32)).toInt = v2.toInt + 1 := a_addl L1 (by omega) (by omega)
      refine s_ix hx ?_
      refine ih v1 (v2 + (1 : Int32)) _ (by omega) hh (zC.fr hC (Fr.w (W := [(101, 999)]) Fr.refl rfl) rfl) h1 h2 (fun y gy hq => ?_) (zI.w hI rfl (show 0 ≤ (1000000 : Int32).toInt ∧ (1000000 : Int32).toInt ≤ 1000000 by omega)) (Fr.w hF rfl)
      have a1 := a_tn gy.1
      have a2 := a_tn hx.1
      by_cases e : y.toNatClampNeg = v2.toNatClampNeg
      · rw [e, r_hit]; exact lM
      · rw [r_place e]; exact hy y gy (by omega)
theorem zgo (x1 : Int32) (m : sm_S) (due : Int) (Lf : Int32 → Int) (hh : gH m x1) (hC : zC m) (h1 : ∀ c : Int32, gC m c → (m.1 100 c.toNatClampNeg).toInt < 1000000 → gH1 m x1 due Lf c) (h2 : ∃ c : Int32, gC m c ∧ (m.1 100 c.toNatClampNeg).toInt < 1000000 ∧ gH2 m x1 due Lf c) (hI : zI m) : Sf (fun r => zI r ∧ Fr wX12_goesThrough m r ∧ gPB 100 r due Lf ∧ gPC 100 r due Lf) (fX12_goesThrough x1 m) := by
  have hfu := fuE
  have l0 := L0
  unfold fX12_goesThrough
  exact zgo_2 m due Lf sm_fu x1 (0 : Int32) m (by omega) hh hC h1 h2 (fun y gy hq => by have := gy.1; omega) hI Fr.refl
/-! the table -/
def gsub (m : sm_S) (X : Int32) : Prop := ∀ i : Nat, i < 32 → bt X i = true → bt (m.1 72 14) i = true
def gT (m : sm_S) (X c : Int32) : Prop := (∀ h : Int32, gH m h → bt X h.toNatClampNeg = true → gL m X c ≤ gG m X c h) ∧ (X.toInt ≠ 0 → gL m X c < 1000000 → ∃ h : Int32, gH m h ∧ bt X h.toNatClampNeg = true ∧ gL m X c = gG m X c h)
def gTT (m : sm_S) (X c : Int32) : Prop := ∀ X' c' : Int32, 0 ≤ X'.toInt → gsub m X' → gC m c' → (X'.toInt < X.toInt ∨ (X'.toInt = X.toInt ∧ c'.toInt < c.toInt)) → gT m X' c'
theorem gdel_lt {X h : Int32} (hX : 0 ≤ X.toInt) (h0 : 0 ≤ h.toInt) (h1 : h.toInt < 32) (hb : bt X h.toNatClampNeg = true) : 0 ≤ (gdel X h).toInt ∧ (gdel X h).toInt < X.toInt := by
  have q := a_andl (x := X) (y := ((1 : Int32) <<< (h &&& 31)) ^^^ (-1 : Int32)) hX
  have e := a_tn h0
  refine ⟨q.1, Int.lt_iff_le_and_ne.mpr ⟨q.2, fun e2 => ?_⟩⟩
  have e3 : gdel X h = X := Int32.toInt_inj.mp e2
  have e4 := b_del (x := X) h0 h1 (i := h.toNatClampNeg) (by omega)
  have e5 : bt (gdel X h) h.toNatClampNeg = (bt X h.toNatClampNeg && !decide (h.toNatClampNeg = h.toNatClampNeg)) := e4
  rw [e3, hb] at e5
  simp at e5
theorem gL_w {m : sm_S} {X c X' c' v : Int32} (hX : 0 ≤ X.toInt ∧ X.toInt ≤ 16383) (hX' : 0 ≤ X'.toInt ∧ X'.toInt ≤ 16383) (hc : 0 ≤ c.toInt ∧ c.toInt ≤ 9) (hc' : 0 ≤ c'.toInt ∧ c'.toInt ≤ 9) (hne : X'.toInt ≠ X.toInt ∨ c'.toInt ≠ c.toInt) : gL (sm_w1 m 98 (((10 : Int32) * X) + c).toNatClampNeg v) X' c' = gL m X' c' := by
  have i1 := g_idx hX.1 hX.2 hc.1 hc.2
  have i2 := g_idx hX'.1 hX'.2 hc'.1 hc'.2
  have t1 := a_tn (x := ((10 : Int32) * X) + c) (by omega)
  have t2 := a_tn (x := ((10 : Int32) * X') + c') (by omega)
  unfold gL
  rw [r_place (by omega)]
theorem gG_w {m : sm_S} {X c X' c' h v : Int32} (hI : zI m) (hC : zC m) (hX : 0 ≤ X.toInt ∧ X.toInt ≤ 16383) (hX' : 0 ≤ X'.toInt ∧ X'.toInt ≤ X.toInt) (hc : 0 ≤ c.toInt ∧ c.toInt ≤ 9) (hh : gH m h) (hb : bt X' h.toNatClampNeg = true) : gG (sm_w1 m 98 (((10 : Int32) * X) + c).toNatClampNeg v) X' c' h = gG m X' c' h := by
  have ch : 0 ≤ (m.1 72 6).toInt ∧ (m.1 72 6).toInt ≤ 14 := hI.1 72 6
  have cc : 0 ≤ (m.1 72 3).toInt ∧ (m.1 72 3).toInt ≤ 10 := hI.1 72 3
  obtain ⟨g1, g2, -⟩ := g_ends hI hC hh
  have hhu := hh
  unfold gH at hhu
  unfold gC at g1 g2
  have d := gdel_lt hX'.1 hhu.1 (by omega) hb
  have a1 : gL (sm_w1 m 98 (((10 : Int32) * X) + c).toNatClampNeg v) (gdel X' h) (m.1 77 h.toNatClampNeg) = gL m (gdel X' h) (m.1 77 h.toNatClampNeg) := gL_w hX (by omega) hc (by omega) (by omega)
  have a2 : gL (sm_w1 m 98 (((10 : Int32) * X) + c).toNatClampNeg v) (gdel X' h) (m.1 76 h.toNatClampNeg) = gL m (gdel X' h) (m.1 76 h.toNatClampNeg) := gL_w hX (by omega) hc (by omega) (by omega)
  show min (min 1000000 (_ + _ + gL (sm_w1 m 98 (((10 : Int32) * X) + c).toNatClampNeg v) (gdel X' h) (m.1 77 h.toNatClampNeg))) (min 1000000 (_ + _ + gL (sm_w1 m 98 (((10 : Int32) * X) + c).toNatClampNeg v) (gdel X' h) (m.1 76 h.toNatClampNeg))) = _
  rw [a1, a2]
  rfl
def gQ (m0 r : sm_S) : Prop := zI r ∧ Fr wX12_laysOutGates m0 r ∧ ∀ X c : Int32, 0 ≤ X.toInt → gsub r X → gC r c → gT r X c
theorem zgl_53 (m0 : sm_S) (k6 : Int32 → sm_S → Option sm_S) (N6 : Nat) (k30 : Int32 → Int32 → sm_S → Option sm_S) (N30 : Nat) (hk30 : ∀ (v1 v2 : Int32) (m : sm_S), (0 ≤ v1.toInt ∧ v1.toInt ≤ 16383 ∧ 0 ≤ v2.toInt ∧ v2.toInt ≤ 10 ∧ 10 - v2.toInt < (N30 : Int) ∧ 16384 - v1.toInt ≤ (N6 : Int)) → gsub m v1 → zI m → zC m → gTT m v1 v2 → Fr wX12_laysOutGates m0 m → Sf (gQ m0) (k30 v1 v2 m)) : ∀ (n : Nat) (v1 v2 v3 v4 : Int32) (m : sm_S), (0 ≤ v1.toInt ∧ v1.toInt ≤ 16383 ∧ 0 ≤ v3.toInt ∧ v3.toInt ≤ 1000000 ∧ 0 ≤ v4.toInt ∧ v4.toInt ≤ 14 ∧ 14 - v4.toInt < (n : Int) ∧ 10 - v2.toInt ≤ (N30 : Int) ∧ 16384 - v1.toInt ≤ (N6 : Int)) → gC m v2 → gsub m v1 → (∀ h : Int32, gH m h → h.toInt < v4.toInt → bt v1 h.toNatClampNeg = true → v3.toInt ≤ gG m v1 v2 h) → (v1.toInt ≠ 0 → v3.toInt < 1000000 → ∃ h : Int32, gH m h ∧ bt v1 h.toNatClampNeg = true ∧ v3.toInt = gG m v1 v2 h) → zI m → zC m → gTT m v1 v2 → Fr wX12_laysOutGates m0 m → Sf (gQ m0) (fX12_laysOutGates_53 k30 k6 n v1 v2 v3 v4 m) := by
  intro n
  induction n with
  | zero => intro v1 v2 v3 v4 m hp hc hs p1 p2 hI hC hT hF; omega
  | succ n ih =>
    intro v1 v2 v3 v4 m hp hc hs p1 p2 hI hC hT hF
    have hnn : ((n + 1 : Nat) : Int) = (n : Int) + 1 := by omega
    have l0 := L0
    have ch : 0 ≤ (m.1 72 6).toInt ∧ (m.1 72 6).toInt ≤ 14 := hI.1 72 6
    have cc : 0 ≤ (m.1 72 3).toInt ∧ (m.1 72 3).toInt ≤ 10 := hI.1 72 3
    have hcu := hc
    unfold gC at hcu
    have i1 := g_idx (X := v1) (c := v2) hp.1 hp.2.1 hcu.1 (by omega)
    unfold fX12_laysOutGates_53
    refine s_le (fun h3 => ?_) (fun h3 => ?_)
    · refine s_ix (by omega) ?_
      have e1 : (v2 + (1 : Int32)).toInt = v2.toInt + 1 := a_addl L1 (by omega) (by omega)
      have fw : Fr [(98, 999)] m (sm_w1 m 98 (((10 : Int32) * v1) + v2).toNatClampNeg v3) := Fr.w Fr.refl rfl
      refine hk30 v1 (v2 + (1 : Int32)) _ (by omega) hs (zI.w hI rfl (show 0 ≤ v3.toInt ∧ v3.toInt ≤ 1000000 by omega)) (zC.fr hC fw rfl) (fun X' c' q0 q1 q2 q3 => ?_) (Fr.w hF rfl)
      have q2u : 0 ≤ c'.toInt ∧ c'.toInt < (m.1 72 3).toInt := q2
      by_cases e : X'.toInt = v1.toInt ∧ c'.toInt = v2.toInt
      · have e2 : X' = v1 := Int32.toInt_inj.mp e.1
        have e3 : c' = v2 := Int32.toInt_inj.mp e.2
        subst e2; subst e3
        have eL : gL (sm_w1 m 98 (((10 : Int32) * X') + c').toNatClampNeg v3) X' c' = v3.toInt := congrArg Int32.toInt r_hit
        refine ⟨fun h hh hb => ?_, fun z1 z2 => ?_⟩
        · rw [eL, gG_w hI hC ⟨by omega, by omega⟩ ⟨by omega, by omega⟩ ⟨by omega, by omega⟩ hh hb]
          exact p1 h hh (by have : h.toInt < (m.1 72 6).toInt := hh.2; omega) hb
        · rw [eL] at z2
          obtain ⟨h, hh, hb, e4⟩ := p2 z1 z2
          refine ⟨h, hh, hb, ?_⟩
          rw [eL, gG_w hI hC ⟨by omega, by omega⟩ ⟨by omega, by omega⟩ ⟨by omega, by omega⟩ hh hb]
          exact e4
      · have eL : gL (sm_w1 m 98 (((10 : Int32) * v1) + v2).toNatClampNeg v3) X' c' = gL m X' c' := gL_w ⟨by omega, by omega⟩ ⟨by omega, by omega⟩ ⟨by omega, by omega⟩ ⟨by omega, by omega⟩ (by omega)
        have hT' := hT X' c' q0 q1 q2 (by omega)
        refine ⟨fun h hh hb => ?_, fun z1 z2 => ?_⟩
        · rw [eL, gG_w hI hC ⟨by omega, by omega⟩ ⟨by omega, by omega⟩ ⟨by omega, by omega⟩ hh hb]
          exact hT'.1 h hh hb
        · rw [eL] at z2
          obtain ⟨h, hh, hb, e4⟩ := hT'.2 z1 z2
          refine ⟨h, hh, hb, ?_⟩
          rw [eL, gG_w hI hC ⟨by omega, by omega⟩ ⟨by omega, by omega⟩ ⟨by omega, by omega⟩ hh hb]
          exact e4
    · have e1 : (v4 + (1 : Int32)).toInt = v4.toInt + 1 := a_addl L1 (by omega) (by omega)
      have h4 : gH m v4 := ⟨by omega, by omega⟩
      refine s_bd (zX12_has2 v1 v4 m (by omega)) (fun r7 h7 => ?_)
      refine s_eq (fun h8 => ?_) (fun h8 => ?_)
      · refine ih v1 v2 v3 (v4 + (1 : Int32)) m (by omega) hc hs (fun h hh hl hb => ?_) p2 hI hC hT hF
        by_cases e : h.toInt = v4.toInt
        · rw [Int32.toInt_inj.mp e, has_f h7 (by omega)] at hb; cases hb
        · exact p1 h hh (by omega) hb
      · refine s_bd (zgG hI hC ⟨hp.1, hp.2.1⟩ hc h4) (fun r9 h9 => ?_)
        have hb4 := has_t h7 (by omega)
        have q := a_ilt (x := r9) (y := v3) (a := r9) (b := v3)
        have bG : gG m v1 v2 v4 ≤ 1000000 := by unfold gG; omega
        have bG0 : 0 ≤ gG m v1 v2 v4 := by
          have a1 : 0 ≤ gL m (gdel v1 v4) (m.1 77 v4.toNatClampNeg) ∧ gL m (gdel v1 v4) (m.1 77 v4.toNatClampNeg) ≤ 1000000 := hI.1 98 _
          have a2 : 0 ≤ gL m (gdel v1 v4) (m.1 76 v4.toNatClampNeg) ∧ gL m (gdel v1 v4) (m.1 76 v4.toNatClampNeg) ≤ 1000000 := hI.1 98 _
          have a3 : 0 ≤ (m.1 99 (((10 : Int32) * v2) + (m.1 76 v4.toNatClampNeg)).toNatClampNeg).toInt ∧ (m.1 99 (((10 : Int32) * v2) + (m.1 76 v4.toNatClampNeg)).toNatClampNeg).toInt ≤ 1000000 := hI.1 99 _
          have a4 : 0 ≤ (m.1 99 (((10 : Int32) * v2) + (m.1 77 v4.toNatClampNeg)).toNatClampNeg).toInt ∧ (m.1 99 (((10 : Int32) * v2) + (m.1 77 v4.toNatClampNeg)).toNatClampNeg).toInt ≤ 1000000 := hI.1 99 _
          obtain ⟨-, -, -, g4, g5, g6, g7⟩ := g_ends hI hC h4
          unfold gG gA gB; omega
        refine ih v1 v2 _ (v4 + (1 : Int32)) m (by omega) hc hs (fun h hh hl hb => ?_) (fun z1 z2 => ?_) hI hC hT hF
        · by_cases e : h.toInt = v4.toInt
          · rw [Int32.toInt_inj.mp e]; omega
          · have := p1 h hh (by omega) hb
            omega
        · by_cases e : r9.toInt < v3.toInt
          · exact ⟨v4, h4, hb4, by omega⟩
          · obtain ⟨h, hh, hb, e4⟩ := p2 z1 (by omega)
            exact ⟨h, hh, hb, by omega⟩
theorem zgl_30 (m0 : sm_S) (k6 : Int32 → sm_S → Option sm_S) (N6 : Nat) (hk6 : ∀ (v1 : Int32) (m : sm_S), (0 ≤ v1.toInt ∧ v1.toInt ≤ 16384 ∧ 16384 - v1.toInt < (N6 : Int)) → zI m → zC m → gTT m v1 0 → Fr wX12_laysOutGates m0 m → Sf (gQ m0) (k6 v1 m)) : ∀ (n : Nat) (v1 v2 : Int32) (m : sm_S), (0 ≤ v1.toInt ∧ v1.toInt ≤ 16383 ∧ 0 ≤ v2.toInt ∧ v2.toInt ≤ 10 ∧ 10 - v2.toInt < (n : Int) ∧ 16384 - v1.toInt ≤ (N6 : Int)) → gsub m v1 → zI m → zC m → gTT m v1 v2 → Fr wX12_laysOutGates m0 m → Sf (gQ m0) (fX12_laysOutGates_30 k6 n v1 v2 m) := by
  intro n
  induction n with
  | zero => intro v1 v2 m hp hs hI hC hT hF; omega
  | succ n ih =>
    intro v1 v2 m hp hs hI hC hT hF
    have hnn : ((n + 1 : Nat) : Int) = (n : Int) + 1 := by omega
    have hfu := fuE
    have l0 := L0
    have lM := L1000000
    have cc : 0 ≤ (m.1 72 3).toInt ∧ (m.1 72 3).toInt ≤ 10 := hI.1 72 3
    unfold fX12_laysOutGates_30
    refine s_le (fun h3 => ?_) (fun h3 => ?_)
    · have e1 : (v1 + (1 : Int32)).toInt = v1.toInt + 1 := a_addl L1 (by omega) (by omega)
      refine hk6 (v1 + (1 : Int32)) m (by omega) hI hC (fun X' c' q0 q1 q2 q3 => ?_) hF
      have q2u : 0 ≤ c'.toInt ∧ c'.toInt < (m.1 72 3).toInt := q2
      exact hT X' c' q0 q1 q2 (by omega)
    · have hc : gC m v2 := ⟨by omega, by omega⟩
      refine s_eq (fun h4 => ?_) (fun h4 => ?_)
      · exact zgl_53 m0 k6 N6 (fX12_laysOutGates_30 k6 n) n ih sm_fu v1 v2 (0 : Int32) (0 : Int32) m (by omega) hc hs (fun h hh hl _ => by have : 0 ≤ h.toInt := hh.1; omega) (fun z => by omega) hI hC hT hF
      · exact zgl_53 m0 k6 N6 (fX12_laysOutGates_30 k6 n) n ih sm_fu v1 v2 (1000000 : Int32) (0 : Int32) m (by omega) hc hs (fun h hh hl _ => by have : 0 ≤ h.toInt := hh.1; omega) (fun z z2 => by omega) hI hC hT hF
/-- a set of bits below k is below 2^k -/
theorem g_pow {X : Int32} {k : Nat} (h0 : 0 ≤ X.toInt) (h : ∀ i : Nat, i < 32 → bt X i = true → i < k) : X.toInt < ((2 ^ k : Nat) : Int) := by
  have e := a_tn h0
  have : X.toNatClampNeg < 2 ^ k := by
    refine Nat.lt_pow_two_of_testBit _ (fun i hi => ?_)
    cases hb : X.toNatClampNeg.testBit i with
    | false => rfl
    | true =>
      rcases Nat.lt_or_ge i 32 with q | q
      · have h2 := b_nat X.toNatClampNeg i q
        rw [← a_nI h0, hb] at h2
        have := h i q h2
        omega
      · have h3 := X.toInt_lt
        have h4 : X.toNatClampNeg < 2 ^ i := Nat.lt_of_lt_of_le (show X.toNatClampNeg < 2 ^ 32 by omega) (Nat.pow_le_pow_right (by decide) q)
        rw [Nat.testBit_lt_two_pow h4] at hb; cases hb
  omega
theorem zall (m : sm_S) (hI : zI m) : Sf (fun r => r.toInt = ((2 ^ (m.1 72 6).toNatClampNeg : Nat) : Int) - 1) (fX12_allHedges m) := by
  have ch : 0 ≤ (m.1 72 6).toInt ∧ (m.1 72 6).toInt ≤ 14 := hI.1 72 6
  have e := a_shlE (x := m.1 72 6) (by omega) (by omega)
  have t := a_tn (x := m.1 72 6) (by omega)
  have b : 2 ^ (m.1 72 6).toNatClampNeg ≤ 2 ^ 14 := Nat.pow_le_pow_right (by decide) (by omega)
  have b0 : 0 < 2 ^ (m.1 72 6).toNatClampNeg := Nat.two_pow_pos _
  unfold fX12_allHedges
  refine s_ret ?_
  rw [a_subl L1 (by omega) (by omega), e]
theorem zgl_6 (m0 : sm_S) : ∀ (n : Nat) (v1 : Int32) (m : sm_S), (0 ≤ v1.toInt ∧ v1.toInt ≤ 16384 ∧ 16384 - v1.toInt < (n : Int)) → zI m → zC m → gTT m v1 0 → Fr wX12_laysOutGates m0 m → Sf (gQ m0) (fX12_laysOutGates_6 n v1 m) := by
  intro n
  induction n with
  | zero => intro v1 m hp hI hC hT hF; omega
  | succ n ih =>
    intro v1 m hp hI hC hT hF
    have hnn : ((n + 1 : Nat) : Int) = (n : Int) + 1 := by omega
    have hfu := fuE
    have l0 := L0
    have ch : 0 ≤ (m.1 72 6).toInt ∧ (m.1 72 6).toInt ≤ 14 := hI.1 72 6
    have t := a_tn (x := m.1 72 6) (by omega)
    have b : 2 ^ (m.1 72 6).toNatClampNeg ≤ 2 ^ 14 := Nat.pow_le_pow_right (by decide) (by omega)
    unfold fX12_laysOutGates_6
    refine s_bd (zall m hI) (fun r4 h4 => ?_)
    refine s_lt (fun h5 => ?_) (fun h5 => ?_)
    · refine s_ret ⟨hI, hF, fun X c q0 q1 q2 => hT X c q0 q1 q2 (Or.inl ?_)⟩
      have := g_pow (k := (m.1 72 6).toNatClampNeg) q0 (fun i hi hb => by
        have := hC.2 i hi (q1 i hi hb)
        omega)
      omega
    · refine s_if (fun h6 => ?_) (fun h6 => ?_)
      · have hs : gsub m v1 := fun i hi hb => by
          have e := congrArg (fun z => bt z i) h6
          simp only [b_and, b_xor, b_0, b_m1 i hi] at e
          rw [hb] at e
          simpa using e
        refine zgl_30 m0 (fX12_laysOutGates_6 n) n ih sm_fu v1 (0 : Int32) m (by omega) hs hI hC hT hF
      · have e1 : (v1 + (1 : Int32)).toInt = v1.toInt + 1 := a_addl L1 (by omega) (by omega)
        refine ih (v1 + (1 : Int32)) m (by omega) hI hC (fun X' c' q0 q1 q2 q3 => ?_) hF
        have q2u : 0 ≤ c'.toInt ∧ c'.toInt < (m.1 72 3).toInt := q2
        by_cases e : X'.toInt = v1.toInt
        · exfalso
          apply h6
          rw [← Int32.toInt_inj.mp e]
          refine b_ext (fun i hi => ?_)
          rw [b_and, b_xor, b_m1 i hi, b_0]
          cases hb : bt X' i with
          | false => rfl
          | true => rw [q1 i hi hb]; rfl
        · exact hT X' c' q0 q1 q2 (by omega)
theorem zgl (m : sm_S) (hI : zI m) (hC : zC m) : Sf (fun r => gQ m r ∧ zC r) (fX12_laysOutGates m) := by
  have hfu := fuE
  have l0 := L0
  have key : Sf (gQ m) (fX12_laysOutGates m) := by
    unfold fX12_laysOutGates
    refine s_bd (zX12_measures m hI) (fun m2 h2 => ?_)
    obtain ⟨-, i2, f2⟩ := h2
    refine zgl_6 m sm_fu (0 : Int32) m2 (by omega) i2 (zC.fr hC f2 rfl) (fun X' c' q0 q1 q2 q3 => ?_) (Fr.trans Fr.refl f2 rfl)
    have q2u : 0 ≤ c'.toInt := q2.1
    omega
  exact s_mono key (fun r hr => ⟨hr, zC.fr hC hr.2.1 rfl⟩)
/-! states that look the same to the table -/
def gK (m m' : sm_S) : Prop := (∀ j, m'.1 98 j = m.1 98 j) ∧ (∀ j, m'.1 99 j = m.1 99 j) ∧ (∀ j, m'.1 76 j = m.1 76 j) ∧ (∀ j, m'.1 77 j = m.1 77 j) ∧ (∀ j, m'.1 78 j = m.1 78 j) ∧ (∀ j, m'.1 82 j = m.1 82 j) ∧ m'.1 72 6 = m.1 72 6 ∧ m'.1 72 3 = m.1 72 3 ∧ m'.1 72 14 = m.1 72 14
theorem gK.trans {a b c : sm_S} (h : gK a b) (k : gK b c) : gK a c := ⟨fun j => (k.1 j).trans (h.1 j), fun j => (k.2.1 j).trans (h.2.1 j), fun j => (k.2.2.1 j).trans (h.2.2.1 j), fun j => (k.2.2.2.1 j).trans (h.2.2.2.1 j), fun j => (k.2.2.2.2.1 j).trans (h.2.2.2.2.1 j), fun j => (k.2.2.2.2.2.1 j).trans (h.2.2.2.2.2.1 j), k.2.2.2.2.2.2.1.trans h.2.2.2.2.2.2.1, k.2.2.2.2.2.2.2.1.trans h.2.2.2.2.2.2.2.1, k.2.2.2.2.2.2.2.2.trans h.2.2.2.2.2.2.2.2⟩
theorem gK.L {m m' : sm_S} (h : gK m m') (X c : Int32) : gL m' X c = gL m X c := by
  unfold gL; rw [h.1]
theorem gK.G {m m' : sm_S} (h : gK m m') (X c e : Int32) : gG m' X c e = gG m X c e := by
  unfold gG gA gB
  rw [h.2.1, h.2.1, h.2.2.1, h.2.2.2.1, h.2.2.2.2.1, h.2.2.2.2.2.1, gK.L h, gK.L h]
theorem gK.T {m m' : sm_S} (h : gK m m') {X c : Int32} (hT : gT m X c) : gT m' X c := by
  unfold gT gH
  rw [gK.L h, h.2.2.2.2.2.2.1]
  refine ⟨fun e hh hb => ?_, fun z1 z2 => ?_⟩
  · rw [gK.G h]; exact hT.1 e hh hb
  · obtain ⟨e, hh, hb, q⟩ := hT.2 z1 z2
    exact ⟨e, hh, hb, by rw [gK.G h]; exact q⟩
theorem gK.all {m m' : sm_S} (h : gK m m') (hT : ∀ X c : Int32, 0 ≤ X.toInt → gsub m X → gC m c → gT m X c) : ∀ X c : Int32, 0 ≤ X.toInt → gsub m' X → gC m' c → gT m' X c := by
  intro X c q0 q1 q2
  refine gK.T h (hT X c q0 (fun i hi hb => ?_) ?_)
  · have := q1 i hi hb
    rwa [h.2.2.2.2.2.2.2.2] at this
  · unfold gC at q2 ⊢
    rwa [h.2.2.2.2.2.2.2.1] at q2
def p14 (X : Int32) : Nat := cnt (bt X) 14
def gJ (m : sm_S) (due : Int) (X : Int32) : Prop := gsub m X ∧ (∀ X c : Int32, 0 ≤ X.toInt → gsub m X → gC m c → gT m X c) ∧ gPB 100 m due (gL m X) ∧ gPC 100 m due (gL m X) ∧ (m.1 72 1).toInt + (p14 X : Int) ≤ 14
theorem zg_95 (m0 : sm_S) (k88 : Int32 → Int32 → sm_S → Option (Int32 × sm_S)) (N88 : Nat) (hk : ∀ (v2 v3 : Int32) (m : sm_S), (0 ≤ v2.toInt ∧ v2.toInt ≤ 999999 ∧ 0 ≤ v3.toInt ∧ v3.toInt ≤ 16383 ∧ (p14 v3 : Int) < (N88 : Int)) → gJ m v2.toInt v3 → zI m → zC m → Fr wX12_gates m0 m → Sf (fun r => True ∧ zI r.2 ∧ Fr wX12_gates m0 r.2) (k88 v2 v3 m)) : ∀ (n : Nat) (v2 v3 v4 : Int32) (m : sm_S), (0 ≤ v2.toInt ∧ v2.toInt ≤ 999999 ∧ 0 ≤ v3.toInt ∧ v3.toInt ≤ 16383 ∧ 0 ≤ v4.toInt ∧ v4.toInt ≤ 14 ∧ 14 - v4.toInt < (n : Int) ∧ (p14 v3 : Int) ≤ (N88 : Int)) → gJ m v2.toInt v3 → (∃ h : Int32, gH m h ∧ v4.toInt ≤ h.toInt ∧ bt v3 h.toNatClampNeg = true ∧ ∃ c, gow m v3 h v2.toInt c) → zI m → zC m → Fr wX12_gates m0 m → Sf (fun r => True ∧ zI r.2 ∧ Fr wX12_gates m0 r.2) (fX12_gates_95 k88 n v2 v3 v4 m) := by
  intro n
  induction n with
  | zero => intro v2 v3 v4 m hp hJ hE hI hC hF; omega
  | succ n ih =>
    intro v2 v3 v4 m hp hJ hE hI hC hF
    have hnn : ((n + 1 : Nat) : Int) = (n : Int) + 1 := by omega
    have l0 := L0
    have ch : 0 ≤ (m.1 72 6).toInt ∧ (m.1 72 6).toInt ≤ 14 := hI.1 72 6
    obtain ⟨hs, hh, hl, hb, hc⟩ := hE
    have hhu := hh
    unfold gH at hhu
    have e1 : (v4 + (1 : Int32)).toInt = v4.toInt + 1 := a_addl L1 (by omega) (by omega)
    have h4 : gH m v4 := ⟨by omega, by omega⟩
    unfold fX12_gates_95
    refine s_bd (zX12_has2 v3 v4 m (by omega)) (fun r7 h7 => ?_)
    refine s_eq (fun h8 => ?_) (fun h8 => ?_)
    · refine ih v2 v3 (v4 + (1 : Int32)) m (by omega) hJ ⟨hs, hh, ?_, hb, hc⟩ hI hC hF
      by_cases e : hs.toInt = v4.toInt
      · rw [Int32.toInt_inj.mp e, has_f h7 (by omega)] at hb; cases hb
      · omega
    · have hb4 := has_t h7 (by omega)
      refine s_bd (zow v3 v4 v2 m (by omega) h4 hI hC) (fun r9 h9 => ?_)
      refine s_eq (fun h10 => ?_) (fun h10 => ?_)
      · refine ih v2 v3 (v4 + (1 : Int32)) m (by omega) hJ ⟨hs, hh, ?_, hb, hc⟩ hI hC hF
        by_cases e : hs.toInt = v4.toInt
        · rw [Int32.toInt_inj.mp e] at hc
          obtain ⟨c, hc⟩ := hc
          exact absurd hc (h9.1 (by omega) c)
        · omega
      · obtain ⟨c0, c1, c2, c3⟩ := h9.2 (by omega)
        obtain ⟨j1, j2, j3, j4, j5⟩ := hJ
        have br : 0 ≤ (m.1 72 1).toInt ∧ (m.1 72 1).toInt ≤ 24 := hI.1 72 1
        refine s_bd (zX12_enters v4 m (by omega) hI) (fun m11 h11 => ?_)
        obtain ⟨p11, i11, f11⟩ := h11
        have k11 : gK m m11 := ⟨fun j => f11 98 j rfl, fun j => f11 99 j rfl, fun j => f11 76 j rfl, fun j => f11 77 j rfl, fun j => f11 78 j rfl, fun j => f11 82 j rfl, f11 72 6 rfl, f11 72 3 rfl, f11 72 14 rfl⟩
        have C11 := zC.fr hC f11 rfl
        have t100 : ∀ j, m11.1 100 j = m.1 100 j := fun j => f11 100 j rfl
        have H4 : gH m11 v4 := by unfold gH; rw [k11.2.2.2.2.2.2.1]; exact h4
        have val : ∀ c : Int32, gC m c → (m.1 100 c.toNatClampNeg).toInt < 1000000 → v2.toInt ≤ (m.1 100 c.toNatClampNeg).toInt + gG m v3 c v4 := fun c q1 q2 => by
          have a1 := j3 c q1 q2
          have a2 := (j2 v3 c (by omega) j1 q1).1 v4 h4 hb4
          omega
        have H1 : ∀ c : Int32, gC m11 c → (m11.1 100 c.toNatClampNeg).toInt < 1000000 → gH1 m11 v4 v2.toInt (gL m (gdel v3 v4)) c := by
          intro c q1 q2
          unfold gC at q1
          rw [k11.2.2.2.2.2.2.2.1] at q1
          rw [t100] at q2
          have a := val c q1 q2
          unfold gH1
          rw [t100, k11.2.1, k11.2.1, k11.2.2.1, k11.2.2.2.1, k11.2.2.2.2.1, k11.2.2.2.2.2.1]
          unfold gG gA gB at a
          omega
        have H2 : ∃ c : Int32, gC m11 c ∧ (m11.1 100 c.toNatClampNeg).toInt < 1000000 ∧ gH2 m11 v4 v2.toInt (gL m (gdel v3 v4)) c := by
          refine ⟨c0, ?_, ?_, ?_⟩
          · unfold gC; rw [k11.2.2.2.2.2.2.2.1]; exact c1
          · rw [t100]; exact c2
          · unfold gH2
            rw [t100, k11.2.1, k11.2.1, k11.2.2.1, k11.2.2.2.1, k11.2.2.2.2.1, k11.2.2.2.2.2.1]
            have b0 : 0 ≤ (m.1 100 c0.toNatClampNeg).toInt ∧ (m.1 100 c0.toNatClampNeg).toInt ≤ 1000000 := hI.1 100 _
            unfold gG gA gB at c3
            omega
        refine s_bd (zgo v4 m11 v2.toInt (gL m (gdel v3 v4)) H4 C11 H1 H2 i11) (fun m13 h13 => ?_)
        obtain ⟨i13, f13, b13, d13⟩ := h13
        have k13 : gK m11 m13 := ⟨fun j => f13 98 j rfl, fun j => f13 99 j rfl, fun j => f13 76 j rfl, fun j => f13 77 j rfl, fun j => f13 78 j rfl, fun j => f13 82 j rfl, f13 72 6 rfl, f13 72 3 rfl, f13 72 14 rfl⟩
        have kk := gK.trans k11 k13
        have t4 := a_tn (x := v4) (by omega)
        have dl := gdel_lt (X := v3) (h := v4) (by omega) (by omega) (by omega) hb4
        have dp : p14 (gdel v3 v4) + 1 = p14 v3 := cnt_del v4.toNatClampNeg (by omega) hb4 (fun k hk => b_del (by omega) (by omega) (by omega))
        have eL : gL m13 (gdel v3 v4) = gL m (gdel v3 v4) := funext (fun c => gK.L kk _ c)
        refine hk v2 (gdel v3 v4) m13 (by omega) ⟨fun i hi hbi => ?_, gK.all kk j2, by rw [eL]; exact b13, by rw [eL]; exact d13, ?_⟩ i13 (zC.fr C11 f13 rfl) (Fr.trans (Fr.trans hF f11 rfl) f13 rfl)
        · have e : bt (gdel v3 v4) i = (bt v3 i && !decide (i = v4.toNatClampNeg)) := b_del (by omega) (by omega) hi
          rw [e] at hbi
          rw [kk.2.2.2.2.2.2.2.2]
          exact j1 i hi (Bool.and_eq_true_iff.mp hbi).1
        · have e : (m13.1 72 1).toInt = (m11.1 72 1).toInt := congrArg Int32.toInt (f13 72 1 rfl)
          omega
theorem zg_88 (m0 : sm_S) : ∀ (n : Nat) (v2 v3 : Int32) (m : sm_S), (0 ≤ v2.toInt ∧ v2.toInt ≤ 999999 ∧ 0 ≤ v3.toInt ∧ v3.toInt ≤ 16383 ∧ (p14 v3 : Int) < (n : Int)) → gJ m v2.toInt v3 → zI m → zC m → Fr wX12_gates m0 m → Sf (fun r => True ∧ zI r.2 ∧ Fr wX12_gates m0 r.2) (fX12_gates_88 n v2 v3 m) := by
  intro n
  induction n with
  | zero => intro v2 v3 m hp hJ hI hC hF; omega
  | succ n ih =>
    intro v2 v3 m hp hJ hI hC hF
    have hnn : ((n + 1 : Nat) : Int) = (n : Int) + 1 := by omega
    have hfu := fuE
    have l0 := L0
    unfold fX12_gates_88
    refine s_eq (fun h1 => s_ret ⟨trivial, hI, hF⟩) (fun h1 => ?_)
    refine zg_95 m0 (fX12_gates_88 n) n ih sm_fu v2 v3 (0 : Int32) m (by omega) hJ ?_ hI hC hF
    obtain ⟨j1, j2, j3, ⟨x, hx, q⟩, -⟩ := hJ
    have b0 : 0 ≤ (m.1 100 x.toNatClampNeg).toInt ∧ (m.1 100 x.toNatClampNeg).toInt ≤ 1000000 := hI.1 100 _
    have b1 : 0 ≤ gL m v3 x ∧ gL m v3 x ≤ 1000000 := hI.1 98 _
    have a1 := j3 x hx (by omega)
    obtain ⟨h, hh, hb, e⟩ := (j2 v3 x (by omega) j1 hx).2 (by omega) (by omega)
    exact ⟨h, hh, by have : 0 ≤ h.toInt := hh.1; omega, hb, x, hx, by omega, by omega⟩
theorem zg_46 (m0 : sm_S) : ∀ (n : Nat) (v1 v2 v3 : Int32) (m : sm_S), (0 ≤ v2.toInt ∧ v2.toInt ≤ 999999 ∧ 0 ≤ v3.toInt ∧ v3.toInt ≤ 10 ∧ 10 - v3.toInt < (n : Int)) → gC m v1 → v2.toInt = gL m (m.1 72 14) v1 → (∀ X c : Int32, 0 ≤ X.toInt → gsub m X → gC m c → gT m X c) → (∀ y : Int32, gC m y → y.toInt < v3.toInt → (y.toInt = v1.toInt ∧ (m.1 100 y.toNatClampNeg).toInt = 0) ∨ (y.toInt ≠ v1.toInt ∧ (m.1 100 y.toNatClampNeg).toInt = 1000000)) → zI m → zC m → Fr wX12_gates m0 m → Sf (fun r => True ∧ zI r.2 ∧ Fr wX12_gates m0 r.2) (fX12_gates_46 n v1 v2 v3 m) := by
  intro n
  induction n with
  | zero => intro v1 v2 v3 m hp h1 h2 hT hy hI hC hF; omega
  | succ n ih =>
    intro v1 v2 v3 m hp h1 h2 hT hy hI hC hF
    have hnn : ((n + 1 : Nat) : Int) = (n : Int) + 1 := by omega
    have hfu := fuE
    have l0 := L0
    have lM := L1000000
    have cc : 0 ≤ (m.1 72 3).toInt ∧ (m.1 72 3).toInt ≤ 10 := hI.1 72 3
    have c14 : 0 ≤ (m.1 72 14).toInt ∧ (m.1 72 14).toInt ≤ 16383 := hI.1 72 14
    unfold fX12_gates_46
    refine s_le (fun h3 => ?_) (fun h3 => ?_)
    · have f1 : Fr [(72, 1)] m (sm_w1 m 72 1 (0 : Int32)) := Fr.w Fr.refl rfl
      have k1 : gK m (sm_w1 m 72 1 (0 : Int32)) := ⟨fun j => f1 98 j rfl, fun j => f1 99 j rfl, fun j => f1 76 j rfl, fun j => f1 77 j rfl, fun j => f1 78 j rfl, fun j => f1 82 j rfl, f1 72 6 rfl, f1 72 3 rfl, f1 72 14 rfl⟩
      have pl : p14 (m.1 72 14) ≤ 14 := cnt_le _ _
      refine zg_88 m0 sm_fu v2 (m.1 72 14) _ (by omega) ⟨fun i _ hb => hb, gK.all k1 hT, fun x hx hl => ?_, ⟨v1, h1, ?_⟩, ?_⟩ (zI.w hI rfl (show 0 ≤ (0 : Int32).toInt ∧ (0 : Int32).toInt ≤ 24 by omega)) (zC.fr hC f1 rfl) (Fr.w hF rfl)
      · have hl2 : (m.1 100 x.toNatClampNeg).toInt < 1000000 := hl
        rcases hy x hx (by have : x.toInt < (m.1 72 3).toInt := hx.2; omega) with q | q
        · rw [Int32.toInt_inj.mp q.1]
          have q2 := q.2
          rw [Int32.toInt_inj.mp q.1] at q2
          show v2.toInt ≤ (m.1 100 v1.toNatClampNeg).toInt + gL m (m.1 72 14) v1
          omega
        · omega
      · show (m.1 100 v1.toNatClampNeg).toInt + gL m (m.1 72 14) v1 ≤ v2.toInt
        rcases hy v1 h1 (by have : v1.toInt < (m.1 72 3).toInt := h1.2; omega) with q | q
        · omega
        · exact absurd rfl q.1
      · show (0 : Int32).toInt + (p14 (m.1 72 14) : Int) ≤ 14
        omega
    · have hx : 0 ≤ v3.toInt ∧ v3.toInt < (10 : Int) := by omega
      have e1 : (v3 + (1 : Int32)).toInt = v3.toInt + 1 := a_addl L1 (by omega) (by omega)
      have step : ∀ w : Int32, 0 ≤ w.toInt ∧ w.toInt ≤ 1000000 → ((v3.toInt = v1.toInt ∧ w.toInt = 0) ∨ (v3.toInt ≠ v1.toInt ∧ w.toInt = 1000000)) → Sf (fun r => True ∧ zI r.2 ∧ Fr wX12_gates m0 r.2) (fX12_gates_46 n v1 v2 (v3 + (1 : Int32)) (sm_w1 m 100 (v3).toNatClampNeg w)) := by
        intro w hw hv
        have f1 : Fr [(100, 999)] m (sm_w1 m 100 (v3).toNatClampNeg w) := Fr.w Fr.refl rfl
        have k1 : gK m (sm_w1 m 100 (v3).toNatClampNeg w) := ⟨fun j => f1 98 j rfl, fun j => f1 99 j rfl, fun j => f1 76 j rfl, fun j => f1 77 j rfl, fun j => f1 78 j rfl, fun j => f1 82 j rfl, f1 72 6 rfl, f1 72 3 rfl, f1 72 14 rfl⟩
        refine ih v1 v2 (v3 + (1 : Int32)) _ (by omega) h1 h2 (gK.all k1 hT) (fun y gy hq => ?_) (zI.w hI rfl hw) (zC.fr hC f1 rfl) (Fr.w hF rfl)
        have a1 := a_tn (x := y) gy.1
        have a2 := a_tn hx.1
        by_cases e : y.toNatClampNeg = v3.toNatClampNeg
        · rw [e, r_hit]; omega
        · rw [r_place e]; exact hy y gy (by omega)
      refine s_eq (fun h4 => ?_) (fun h4 => ?_)
      · exact s_ix hx (step (0 : Int32) (by omega) (by omega))
      · exact s_ix hx (step (1000000 : Int32) (by omega) (by omega))
theorem zX12_gates (x1 : Int32) (m : sm_S) (hI : zI m) (hC : zC m) : Sf (fun r => (True) ∧ zI r.2 ∧ Fr wX12_gates m r.2) (fX12_gates x1 m) := by
  have hfu := fuE
  have l0 := L0
  have lM := L1000000
  have i1 : zI (sm_w1 m 72 0 (0 : Int32)) := zI.w hI rfl (show 0 ≤ (0 : Int32).toInt ∧ (0 : Int32).toInt ≤ 1 by omega)
  have f1 : Fr wX12_gates m (sm_w1 m 72 0 (0 : Int32)) := Fr.w Fr.refl rfl
  have C1 : zC (sm_w1 m 72 0 (0 : Int32)) := ⟨fun j hj => hC.1 j hj, fun i q1 q2 => hC.2 i q1 q2⟩
  unfold fX12_gates
  refine s_bd (zX12_isCorner x1 _ i1) (fun r2 h2 => ?_)
  have e3 : ((sm_w1 m 72 0 (0 : Int32)).1 72 3).toInt = (m.1 72 3).toInt := rfl
  have cc : 0 ≤ (m.1 72 3).toInt ∧ (m.1 72 3).toInt ≤ 10 := hI.1 72 3
  refine s_eq (fun h3 => s_ret ⟨trivial, i1, f1⟩) (fun h3 => ?_)
  refine s_bd (zgl _ i1 C1) (fun m4 h4 => ?_)
  obtain ⟨⟨i4, f4, T4⟩, C4⟩ := h4
  have F4 : Fr wX12_gates m m4 := Fr.trans f1 f4 rfl
  have c14 : 0 ≤ (m4.1 72 14).toInt ∧ (m4.1 72 14).toInt ≤ 16383 := i4.1 72 14
  have e4 : (m4.1 72 3).toInt = (m.1 72 3).toInt := congrArg Int32.toInt (f4 72 3 rfl)
  have ix := g_idx (X := m4.1 72 14) (c := x1) c14.1 c14.2 (by omega) (by omega)
  have b98 : 0 ≤ (m4.1 98 (((10 : Int32) * (m4.1 72 14)) + x1).toNatClampNeg).toInt ∧ (m4.1 98 (((10 : Int32) * (m4.1 72 14)) + x1).toNatClampNeg).toInt ≤ 1000000 := i4.1 98 _
  refine s_ix (by omega) (s_lt (fun h5 => ?_) (fun h5 => s_ret ⟨trivial, i4, F4⟩))
  have hx1 : gC m4 x1 := ⟨by omega, by omega⟩
  exact zg_46 m sm_fu x1 _ (0 : Int32) m4 (by omega) hx1 rfl T4 (fun y gy hq => by have : 0 ≤ y.toInt := gy.1; omega) i4 C4 F4
