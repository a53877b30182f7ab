/-! ONE CALL ON THE FRESH STATE -/
theorem p_ltt {x y : Int32} (h : x.toInt < y.toInt) : x < y := Int32.lt_iff_toInt_lt.mpr h
theorem p_ltf {x y : Int32} (h : y.toInt ≤ x.toInt) : ¬ x < y := fun q => absurd (Int32.lt_iff_toInt_lt.mp q) (by omega)
theorem p_let {x y : Int32} (h : x.toInt ≤ y.toInt) : x ≤ y := Int32.le_iff_toInt_le.mpr h
theorem p_lef {x y : Int32} (h : y.toInt < x.toInt) : ¬ x ≤ y := fun q => absurd (Int32.le_iff_toInt_le.mp q) (by omega)
theorem p_nef {x y : Int32} (h : x.toInt ≠ y.toInt) : ¬ x = y := fun q => h (by rw [q])
theorem p_cmp_lt {x y : Int64} (h : x.toInt < y.toInt) : lg_cmp x y = -1 := by
  unfold lg_cmp
  rw [if_neg (fun q => absurd (Int64.lt_iff_toInt_lt.mp q) (by omega)), if_neg (fun q => absurd (congrArg Int64.toInt q) (by omega))]
theorem p_cmp_gt {x y : Int64} (h : y.toInt < x.toInt) : lg_cmp x y = 1 := by
  unfold lg_cmp
  exact if_pos (Int64.lt_iff_toInt_lt.mpr h)
theorem p_cmp_eq {x y : Int64} (h : x.toInt = y.toInt) : lg_cmp x y = 0 := by
  unfold lg_cmp
  rw [if_neg (fun q => absurd (Int64.lt_iff_toInt_lt.mp q) (by omega)), if_pos (Int64.toInt_inj.mp h)]
theorem p_inf {a lo hi : Int64} {m : sm_S} (h : a.toInt < lo.toInt ∨ hi.toInt < a.toInt) : fX12_in a lo hi m = some 0 := by
  unfold fX12_in
  by_cases h1 : a.toInt < lo.toInt
  · rw [p_cmp_lt h1]; rfl
  · have h2 : hi.toInt < a.toInt := by omega
    by_cases h3 : lo.toInt < a.toInt
    · rw [p_cmp_gt h3, p_cmp_gt h2]; rfl
    · rw [p_cmp_eq (x := a) (y := lo) (by omega), p_cmp_gt h2]; rfl
theorem p_int {a lo hi : Int64} {m : sm_S} (h1 : lo.toInt ≤ a.toInt) (h2 : a.toInt ≤ hi.toInt) : fX12_in a lo hi m = some 1 := by
  unfold fX12_in
  have e1 : ¬ lg_cmp a lo < 0 := by
    by_cases h3 : lo.toInt < a.toInt
    · rw [p_cmp_gt h3]; decide
    · rw [p_cmp_eq (x := a) (y := lo) (by omega)]; decide
  have e2 : ¬ 0 < lg_cmp a hi := by
    by_cases h3 : a.toInt < hi.toInt
    · rw [p_cmp_lt h3]; decide
    · rw [p_cmp_eq (x := a) (y := hi) (by omega)]; decide
  rw [if_neg e1, if_neg e2]
theorem p_in0 {x : Int32} {lo hi : Int64} {m : sm_S} (h : x.toInt < lo.toInt ∨ hi.toInt < x.toInt) : fX12_in x.toInt64 lo hi m = some 0 := p_inf (by rw [Int32.toInt_toInt64]; exact h)
theorem p_in1 {x : Int32} {lo hi : Int64} {m : sm_S} (h1 : lo.toInt ≤ x.toInt) (h2 : x.toInt ≤ hi.toInt) : fX12_in x.toInt64 lo hi m = some 1 := p_int (by rw [Int32.toInt_toInt64]; exact h1) (by rw [Int32.toInt_toInt64]; exact h2)
theorem p_hc (x : Int32) : fX2_hasCorner x sm_n0 = some 0 := by
  unfold fX2_hasCorner
  by_cases h : x < 0
  · exact if_pos h
  · exact (if_neg h).trans (if_pos (show (0 : Int32) ≤ x from Int32.not_lt.mp h))
theorem p_hh (x : Int32) : fX2_hasHedge x sm_n0 = some 0 := by
  unfold fX2_hasHedge
  by_cases h : x < 0
  · exact if_pos h
  · exact (if_neg h).trans (if_pos (show (0 : Int32) ≤ x from Int32.not_lt.mp h))
theorem p_ic (x : Int32) (m : sm_S) (hm : m.1 72 3 = 0) : fX12_isCorner x m = some 0 := by
  unfold fX12_isCorner
  rw [hm, p_in0 (by show x.toInt < 0 ∨ (-1 : Int) < x.toInt; omega)]
  rfl
theorem p_ih (x : Int32) (m : sm_S) (hm : m.1 72 6 = 0) : fX12_isHedge x m = some 0 := by
  unfold fX12_isHedge
  rw [hm, p_in0 (by show x.toInt < 0 ∨ (-1 : Int) < x.toInt; omega)]
  rfl
/-- a small number is one of a list -/
theorem p_fin {x : Int32} {N : Nat} (h0 : 0 ≤ x.toInt) (h1 : x.toInt < N) (hN : N ≤ 1000) : ∃ k, k < N ∧ x = Int32.ofNat k := by
  refine ⟨x.toInt.toNat, by omega, ?_⟩
  apply Int32.toInt_inj.mp
  rw [Int32.toInt_ofNat_of_lt (by omega)]
  omega
def P2 (A : Option (Int32 × sm_S)) (B : sm_S → Option (Int32 × sm_S)) : Prop := ∃ r q, A = some r ∧ B r.2 = some q ∧ r.1 = q.1
def P1 (A : Option Int32) (B : Option (Int32 × sm_S)) : Prop := ∃ r q, A = some r ∧ B = some q ∧ r = q.1
theorem o_sign (x : Int32) : P2 (fX11_sign x sm_n0) (fX12_sign x) := sm_q2_ok rfl
theorem o_end (x : Int32) : P2 (fX11_end x sm_n0) (fX12_end x) := by
  by_cases h1 : x.toInt < 0
  · refine ⟨(0, sm_n0), (0, sm_w1 sm_n0 72 0 0), if_pos (p_ltt h1), ?_, rfl⟩
    show fX12_end x sm_n0 = _
    unfold fX12_end
    rw [p_in0 (Or.inl h1)]; rfl
  · have h0 : ¬ x < 0 := p_ltf (y := 0) (by show (0 : Int) ≤ x.toInt; omega)
    by_cases h2 : x.toInt ≤ 0
    · refine ⟨(1, sm_w1 sm_n0 1 1 x), (1, sm_w1 (sm_w1 (sm_w1 sm_n0 1 1 x) 72 0 0) 72 21 x), ?_, ?_, rfl⟩
      · unfold fX11_end
        rw [if_neg h0]; exact if_pos (p_let (y := 0) h2)
      · show fX12_end x (sm_w1 sm_n0 1 1 x) = _
        unfold fX12_end
        rw [p_in1 (by show (0 : Int) ≤ x.toInt; omega) (by show x.toInt ≤ 0; exact h2)]; rfl
    · refine ⟨(0, sm_n0), (0, sm_w1 sm_n0 72 0 0), ?_, ?_, rfl⟩
      · unfold fX11_end
        rw [if_neg h0]; exact if_neg (p_lef (y := 0) (by show (0 : Int) < x.toInt; omega))
      · show fX12_end x sm_n0 = _
        unfold fX12_end
        rw [p_in0 (Or.inr (by show (0 : Int) < x.toInt; omega))]; rfl
theorem o_land : P2 (fX11_land sm_n0) fX12_land := sm_q2_ok (by decide +kernel)
theorem o_grass (x y : Int32) : P1 (fX11_grass x y sm_n0) (fX12_grass x y sm_n0) := by
  refine ⟨-1, (-1, sm_w1 sm_n0 72 0 0), ?_, ?_, rfl⟩
  · unfold fX11_grass; rw [p_hc]; rfl
  · unfold fX12_grass; rw [p_ic _ (sm_w1 sm_n0 72 0 0) rfl]; rfl
theorem o_walk (x : Int32) : P2 (fX11_walk x sm_n0) (fX12_walk x) := by
  refine ⟨(-1, sm_n0), (-1, sm_w1 sm_n0 72 0 0), ?_, ?_, rfl⟩
  · unfold fX11_walk; rw [p_hh]; rfl
  · show fX12_walk x sm_n0 = _
    unfold fX12_walk; rw [p_ih _ (sm_w1 sm_n0 72 0 0) rfl]; rfl
theorem o_undo : P2 (fX11_undo sm_n0) fX12_undo := sm_q2_ok (by decide +kernel)
theorem o_go (x : Int32) : P2 (fX11_go x sm_n0) (fX12_go x) := by
  refine ⟨(0, sm_n0), (0, sm_w1 sm_n0 72 0 0), ?_, ?_, rfl⟩
  · unfold fX11_go; rw [p_hc]; rfl
  · show fX12_go x sm_n0 = _
    unfold fX12_go; rw [p_ic _ (sm_w1 sm_n0 72 0 0) rfl]; rfl
theorem o_can : P1 (fX11_can sm_n0) (fX12_can sm_n0) := sm_q1_ok (by decide +kernel)
theorem o_apart : P2 (fX11_apart sm_n0) fX12_apart := sm_q2_ok (by decide +kernel)
theorem o_odd : P2 (fX11_odd sm_n0) fX12_odd := sm_q2_ok (by decide +kernel)
theorem o_men : P2 (fX11_men sm_n0) fX12_men := sm_q2_ok (by decide +kernel)
theorem o_trail (x : Int32) : P2 (fX11_trail x sm_n0) (fX12_trail x) := by
  refine ⟨(-1, sm_n0), (-1, sm_w1 sm_n0 72 0 0), ?_, ?_, rfl⟩
  · unfold fX11_trail; rw [p_hc]; rfl
  · show fX12_trail x sm_n0 = _
    unfold fX12_trail; rw [p_ic _ (sm_w1 sm_n0 72 0 0) rfl]; rfl
theorem o_round : P2 (fX11_round sm_n0) fX12_round := sm_q2_ok (by decide +kernel)
theorem o_closed : P2 (fX11_closed sm_n0) fX12_closed := sm_q2_ok (by decide +kernel)
theorem o_open : P2 (fX11_open sm_n0) fX12_open := sm_q2_ok (by decide +kernel)
theorem o_most (x y : Int32) : P2 (fX11_most x y sm_n0) (fX12_most x y) := by
  refine ⟨(-1, sm_n0), (-1, sm_w1 sm_n0 72 0 0), ?_, ?_, rfl⟩
  · unfold fX11_most fX11_mostWorth; rw [p_hc]; rfl
  · show fX12_most x y sm_n0 = _
    unfold fX12_most; rw [p_ic _ (sm_w1 sm_n0 72 0 0) rfl]; rfl
theorem o_home (x y : Int32) : P2 (fX11_home x y sm_n0) (fX12_home x y) := by
  refine ⟨(-1, sm_n0), (-1, sm_w1 sm_n0 72 0 0), ?_, ?_, rfl⟩
  · unfold fX11_home fX11_mostWorth; rw [p_hc]; rfl
  · show fX12_home x y sm_n0 = _
    unfold fX12_home; rw [p_ic _ (sm_w1 sm_n0 72 0 0) rfl]; rfl
theorem o_soon (x y : Int32) : P2 (fX11_soon x y sm_n0) (fX12_soon x y) := by
  refine ⟨(-1, sm_n0), (-1, sm_w1 sm_n0 72 0 0), ?_, ?_, rfl⟩
  · unfold fX11_soon; rw [p_hc]; rfl
  · show fX12_soon x y sm_n0 = _
    unfold fX12_soon; rw [p_ic _ (sm_w1 sm_n0 72 0 0) rfl]; rfl
theorem o_bridges : P1 (fX11_bridges sm_n0) (fX12_bridges sm_n0) := sm_q1_ok (by decide +kernel)
theorem o_gates (x : Int32) : P2 (fX11_gates x sm_n0) (fX12_gates x) := by
  refine ⟨(-1, sm_n0), (-1, sm_w1 sm_n0 72 0 0), ?_, ?_, rfl⟩
  · unfold fX11_gates; rw [p_hc]; rfl
  · show fX12_gates x sm_n0 = _
    unfold fX12_gates; rw [p_ic _ (sm_w1 sm_n0 72 0 0) rfl]; rfl
theorem o_heard (x y : Int32) : P2 (fX11_heard x y sm_n0) (fX12_heard x y) := by
  refine ⟨(-1, sm_n0), (-1, sm_w1 sm_n0 72 0 0), ?_, ?_, rfl⟩
  · unfold fX11_heard; rw [p_hh]; rfl
  · show fX12_heard x y sm_n0 = _
    unfold fX12_heard; rw [p_ih _ (sm_w1 sm_n0 72 0 0) rfl]; rfl
theorem o_forget : P2 (fX11_forget sm_n0) fX12_forget := sm_q2_ok (by decide +kernel)
theorem o_quarrel : P2 (fX11_quarrel sm_n0) fX12_quarrel := sm_q2_ok (by decide +kernel)
