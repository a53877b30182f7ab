theorem p_nn {x : Int32} (h : ¬ x.toInt < 0) : ¬ x < 0 := p_ltf (y := 0) (by show (0 : Int) ≤ x.toInt; omega)
theorem o_hedge (x y : Int32) : ∃ q, fL_hedge x y sm_n0 = some (1, sm_n0) ∧ fX12_hedge x y sm_n0 = some q ∧ q.2.1 72 0 = 1 := by
  refine ⟨(0, sm_w1 (sm_w1 sm_n0 72 0 0) 72 0 1), ?_, ?_, rfl⟩
  · have e1 : fX11_hedge x y sm_n0 = none := by unfold fX11_hedge; rw [p_hh]; rfl
    have e2 : gX11_hedge x y sm_n0 = some () := by unfold gX11_hedge; rw [p_hh]; rfl
    unfold fL_hedge
    rw [e1, e2]
  · unfold fX12_hedge; rw [p_ih _ (sm_w1 sm_n0 72 0 0) rfl]; rfl
theorem o_reach (x : Int32) : ∃ q, fL_reach x sm_n0 = some (1, sm_n0) ∧ fX12_reach x sm_n0 = some q ∧ q.2.1 72 0 = 1 := by
  refine ⟨(0, sm_w1 (sm_w1 sm_n0 72 0 0) 72 0 1), ?_, ?_, rfl⟩
  · have e1 : fX11_reach x sm_n0 = none := rfl
    have e2 : gX11_reach x sm_n0 = some () := rfl
    unfold fL_reach
    rw [e1, e2]
  · rfl
theorem o_row (x : Int32) : ∃ q, fL_row x sm_n0 = some (1, sm_n0) ∧ fX12_row x sm_n0 = some q ∧ q.2.1 72 0 = 1 := by
  refine ⟨(0, sm_w1 (sm_w1 sm_n0 72 0 0) 72 0 1), ?_, ?_, rfl⟩
  · have e0 : ¬ x < 0 → ¬ x < (sm_n0.1 14 1) := fun h => h
    have e1 : fX11_row x sm_n0 = none := by
      unfold fX11_row
      by_cases h : x < 0
      · exact if_pos h
      · rw [if_neg h, if_neg (e0 h)]
    have e2 : gX11_row x sm_n0 = some () := by
      unfold gX11_row
      by_cases h : x < 0
      · exact if_pos h
      · rw [if_neg h, if_neg (e0 h)]
    unfold fL_row
    rw [e1, e2]
  · unfold fX12_row
    have e : ((sm_n0.1 72 1) - (1 : Int32)) = -1 := rfl
    rw [e, p_in0 (x := x) (lo := 0) (hi := (-1 : Int32).toInt64) (by show x.toInt < 0 ∨ (-1 : Int) < x.toInt; omega)]
    rfl
theorem o_rest (x : Int32) : P2 (fX11_rest x sm_n0) (fX12_rest x) := by
  by_cases h1 : x.toInt < 0
  · refine ⟨(-1, sm_n0), (-1, sm_w1 sm_n0 72 0 0), if_pos (p_ltt h1), ?_, rfl⟩
    show fX12_rest x sm_n0 = _
    unfold fX12_rest
    rw [p_in0 (Or.inl h1)]; rfl
  · by_cases h2 : x.toInt ≤ 9999
    · have h3 : x ≤ (9999 : Int32) := p_let (y := 9999) h2
      by_cases h4 : (0 : Int32) + x ≤ 600
      · refine ⟨(0 + x, sm_w1 (sm_w1 sm_n0 16 1 (0 + x)) 20 0 0), (0 + x, sm_w1 (sm_w1 (sm_w1 (sm_w1 (sm_w1 sm_n0 16 1 (0 + x)) 20 0 0) 72 0 0) 72 18 (0 + x)) 72 27 0), ?_, ?_, rfl⟩
        · unfold fX11_rest
          rw [if_neg (p_nn h1), if_pos h3]
          exact if_pos h4
        · show fX12_rest x (sm_w1 (sm_w1 sm_n0 16 1 (0 + x)) 20 0 0) = _
          unfold fX12_rest
          rw [p_in1 (by show (0 : Int) ≤ x.toInt; omega) (by show x.toInt ≤ 9999; exact h2)]
          exact if_pos h4
      · refine ⟨(-5, sm_n0), (-5, sm_w1 sm_n0 72 0 0), ?_, ?_, rfl⟩
        · unfold fX11_rest
          rw [if_neg (p_nn h1), if_pos h3]
          exact if_neg h4
        · show fX12_rest x sm_n0 = _
          unfold fX12_rest
          rw [p_in1 (by show (0 : Int) ≤ x.toInt; omega) (by show x.toInt ≤ 9999; exact h2)]
          exact if_neg h4
    · refine ⟨(-1, sm_n0), (-1, sm_w1 sm_n0 72 0 0), ?_, ?_, rfl⟩
      · unfold fX11_rest
        rw [if_neg (p_nn h1), if_neg (p_lef (y := 9999) (by show (9999 : Int) < x.toInt; omega))]
      · show fX12_rest x sm_n0 = _
        unfold fX12_rest
        rw [p_in0 (Or.inr (by show (9999 : Int) < x.toInt; omega))]; rfl
theorem o_count (x : Int32) : P1 (fX11_count x sm_n0) (fX12_count x sm_n0) := by
  by_cases h0 : x = 0
  · subst h0; exact sm_q1_ok (by decide +kernel)
  by_cases h1 : x = 1
  · subst h1; exact sm_q1_ok (by decide +kernel)
  by_cases h2 : x = 2
  · subst h2; exact sm_q1_ok (by decide +kernel)
  by_cases h3 : x = 3
  · subst h3; exact sm_q1_ok (by decide +kernel)
  by_cases h4 : x = 4
  · subst h4; exact sm_q1_ok (by decide +kernel)
  by_cases h5 : x = 5
  · subst h5; exact sm_q1_ok (by decide +kernel)
  by_cases h6 : x = 6
  · subst h6; exact sm_q1_ok (by decide +kernel)
  by_cases h7 : x = 7
  · subst h7; exact sm_q1_ok (by decide +kernel)
  by_cases h8 : x = 8
  · subst h8; exact sm_q1_ok (by decide +kernel)
  by_cases h9 : x = 9
  · subst h9; exact sm_q1_ok (by decide +kernel)
  refine ⟨-1, (-1, sm_w1 sm_n0 72 0 0), ?_, ?_, rfl⟩
  · unfold fX11_count; rw [if_neg h0, if_neg h1, if_neg h2, if_neg h3, if_neg h4, if_neg h5, if_neg h6, if_neg h7, if_neg h8, if_neg h9]
  · unfold fX12_count; rw [if_neg h0, if_neg h1, if_neg h2, if_neg h3, if_neg h4, if_neg h5, if_neg h6, if_neg h7, if_neg h8, if_neg h9]
theorem p_all {f : Int32 → Bool} {N : Nat} (h : (List.range N).all (fun k => f (Int32.ofNat k)) = true) {x : Int32} (h0 : ¬ x.toInt < 0) (h1 : x.toInt < N) (hN : N ≤ 1000) : f x = true := by
  obtain ⟨k, hk, rfl⟩ := p_fin (x := x) (N := N) (by omega) h1 hN
  exact List.all_eq_true.mp h k (List.mem_range.mpr hk)
theorem o_tour (x : Int32) : P2 (fX11_tour x sm_n0) (fX12_tour x) := by
  by_cases h1 : x.toInt < 0
  · refine ⟨(-100, sm_w1 sm_n0 1 1 0), (-100, sm_w1 (sm_w1 (sm_w1 (sm_w1 (sm_w1 sm_n0 1 1 0) 72 0 0) 72 21 0) 72 22 0) 72 23 0), if_pos (p_ltt h1), ?_, rfl⟩
    show fX12_tour x (sm_w1 sm_n0 1 1 0) = _
    unfold fX12_tour
    show (fX12_in x.toInt64 0 1 _).bind _ = _
    rw [p_in0 (Or.inl h1)]; rfl
  · by_cases h2 : x.toInt < 2
    · exact sm_q2_ok (p_all (f := fun x => sm_q2 (fX11_tour x sm_n0) (fX12_tour x)) (N := 2) (by decide +kernel) h1 h2 (by decide))
    · refine ⟨(-100, sm_w1 sm_n0 1 1 0), (-100, sm_w1 (sm_w1 (sm_w1 (sm_w1 (sm_w1 sm_n0 1 1 0) 72 0 0) 72 21 0) 72 22 0) 72 23 0), ?_, ?_, rfl⟩
      · unfold fX11_tour
        rw [if_neg (p_nn h1), if_neg (p_ltf (y := 2) (by show (2 : Int) ≤ x.toInt; omega))]
      · show fX12_tour x (sm_w1 sm_n0 1 1 0) = _
        unfold fX12_tour
        show (fX12_in x.toInt64 0 1 _).bind _ = _
        rw [p_in0 (Or.inr (by show (1 : Int) < x.toInt; omega))]; rfl
theorem o_look (x : Int32) : P2 (fX11_look x sm_n0) (fX12_look x) := by
  by_cases h1 : x.toInt < 0
  · refine ⟨(-1, sm_n0), (-1, sm_w1 sm_n0 72 0 0), if_pos (p_ltt h1), ?_, rfl⟩
    show fX12_look x sm_n0 = _
    unfold fX12_look
    rw [p_in0 (Or.inl h1)]; rfl
  · by_cases h2 : x.toInt < 2
    · exact sm_q2_ok (p_all (f := fun x => sm_q2 (fX11_look x sm_n0) (fX12_look x)) (N := 2) (by decide +kernel) h1 h2 (by decide))
    · refine ⟨(-1, sm_n0), (-1, sm_w1 sm_n0 72 0 0), ?_, ?_, rfl⟩
      · unfold fX11_look
        rw [if_neg (p_nn h1), if_neg (p_ltf (y := 2) (by show (2 : Int) ≤ x.toInt; omega))]
      · show fX12_look x sm_n0 = _
        unfold fX12_look
        rw [p_in0 (Or.inr (by show (1 : Int) < x.toInt; omega))]; rfl
theorem o_meets (x : Int32) : P2 (fX11_meets x sm_n0) (fX12_meets x) := by
  by_cases h1 : x.toInt < 0
  · refine ⟨(-1, sm_n0), (-1, sm_w1 sm_n0 72 0 0), if_pos (p_ltt h1), ?_, rfl⟩
    show fX12_meets x sm_n0 = _
    unfold fX12_meets
    rw [p_in0 (Or.inl h1)]; rfl
  · by_cases h2 : x.toInt < 100
    · exact sm_q2_ok (p_all (f := fun x => sm_q2 (fX11_meets x sm_n0) (fX12_meets x)) (N := 100) (by decide +kernel) h1 h2 (by decide))
    · refine ⟨(-1, sm_n0), (-1, sm_w1 sm_n0 72 0 0), ?_, ?_, rfl⟩
      · unfold fX11_meets
        rw [if_neg (p_nn h1), if_neg (p_lef (y := 99) (by show (99 : Int) < x.toInt; omega))]
      · show fX12_meets x sm_n0 = _
        unfold fX12_meets
        rw [p_in0 (Or.inr (by show (99 : Int) < x.toInt; omega))]; rfl
theorem o_season (x : Int32) : P2 (fX11_season x sm_n0) (fX12_season x) := by
  by_cases h1 : x.toInt < 0
  · refine ⟨(-1, sm_n0), (-1, sm_w1 sm_n0 72 0 0), if_pos (p_ltt h1), ?_, rfl⟩
    show fX12_season x sm_n0 = _
    unfold fX12_season
    rw [p_in0 (Or.inl h1)]; rfl
  · by_cases h2 : x.toInt < 61
    · exact sm_q2_ok (p_all (f := fun x => sm_q2 (fX11_season x sm_n0) (fX12_season x)) (N := 61) (by decide +kernel) h1 h2 (by decide))
    · refine ⟨(-1, sm_n0), (-1, sm_w1 sm_n0 72 0 0), ?_, ?_, rfl⟩
      · unfold fX11_season
        rw [if_neg (p_nn h1), if_neg (p_lef (y := 60) (by show (60 : Int) < x.toInt; omega))]
      · show fX12_season x sm_n0 = _
        unfold fX12_season
        rw [p_in0 (Or.inr (by show (60 : Int) < x.toInt; omega))]; rfl
theorem o_keep (x : Int32) : P2 (fX11_keep x sm_n0) (fX12_keep x) := by
  by_cases h1 : x.toInt < 0
  · refine ⟨(0, sm_n0), (0, sm_w1 sm_n0 72 0 0), if_pos (p_ltt h1), ?_, rfl⟩
    show fX12_keep x sm_n0 = _
    unfold fX12_keep
    rw [p_in0 (Or.inl h1)]; rfl
  · by_cases h2 : x.toInt < 3
    · exact sm_q2_ok (p_all (f := fun x => sm_q2 (fX11_keep x sm_n0) (fX12_keep x)) (N := 3) (by decide +kernel) h1 h2 (by decide))
    · refine ⟨(0, sm_n0), (0, sm_w1 sm_n0 72 0 0), ?_, ?_, rfl⟩
      · unfold fX11_keep
        rw [if_neg (p_nn h1), if_neg (p_ltf (y := 3) (by show (3 : Int) ≤ x.toInt; omega))]
      · show fX12_keep x sm_n0 = _
        unfold fX12_keep
        rw [p_in0 (Or.inr (by show (2 : Int) < x.toInt; omega))]; rfl
theorem o_again (x : Int32) : P2 (fX11_again x sm_n0) (fX12_again x) := by
  by_cases h1 : x.toInt < 0
  · refine ⟨(0, sm_n0), (0, sm_w1 sm_n0 72 0 0), if_pos (p_ltt h1), ?_, rfl⟩
    show fX12_again x sm_n0 = _
    unfold fX12_again
    rw [p_in0 (Or.inl h1)]; rfl
  · by_cases h2 : x.toInt < 3
    · exact sm_q2_ok (p_all (f := fun x => sm_q2 (fX11_again x sm_n0) (fX12_again x)) (N := 3) (by decide +kernel) h1 h2 (by decide))
    · refine ⟨(0, sm_n0), (0, sm_w1 sm_n0 72 0 0), ?_, ?_, rfl⟩
      · unfold fX11_again
        rw [if_neg (p_nn h1), if_pos (p_let (x := 3) (by show (3 : Int) ≤ x.toInt; omega))]
      · show fX12_again x sm_n0 = _
        unfold fX12_again
        rw [p_in0 (Or.inr (by show (2 : Int) < x.toInt; omega))]; rfl
theorem o_set (x y z : Int32) : P2 (fX11_set x y z sm_n0) (fX12_set x y z) := by
  have hy : fX12_isHedge y (sm_w1 sm_n0 72 0 0) = some 0 := p_ih y _ rfl
  by_cases h0 : x = 0
  · subst h0
    refine ⟨(-1, sm_n0), (-1, sm_w1 sm_n0 72 0 0), ?_, ?_, rfl⟩
    · unfold fX11_set fX11_setDigit; rw [p_hh]; rfl
    · show fX12_set 0 y z sm_n0 = _
      unfold fX12_set; rw [p_in1 (by decide) (by decide), hy]; rfl
  by_cases h1 : x = 1
  · subst h1
    refine ⟨(-1, sm_n0), (-1, sm_w1 sm_n0 72 0 0), ?_, ?_, rfl⟩
    · unfold fX11_set fX11_setDigit_i1; rw [p_hh]; rfl
    · show fX12_set 1 y z sm_n0 = _
      unfold fX12_set; rw [p_in1 (by decide) (by decide), hy]; rfl
  by_cases h2 : x = 2
  · subst h2
    by_cases z1 : z.toInt < 0 ∨ 99 < z.toInt
    · refine ⟨(-1, sm_n0), (-1, sm_w1 sm_n0 72 0 0), ?_, ?_, rfl⟩
      · show (fX11_setNights z sm_n0).bind _ = _
        have e : fX11_setNights z sm_n0 = some (-1, sm_n0) := by
          unfold fX11_setNights
          by_cases h : z.toInt < 0
          · exact if_pos (p_ltt h)
          · rw [if_neg (p_nn h), if_neg (p_lef (y := 99) (by show (99 : Int) < z.toInt; omega))]
        rw [e]; rfl
      · show fX12_set 2 y z sm_n0 = _
        unfold fX12_set; rw [p_in0 (x := 2) (lo := 0) (hi := 1) (by decide)]
        show (fX12_in z.toInt64 0 99 _).bind _ = _
        rw [p_in0 (by show z.toInt < 0 ∨ (99 : Int) < z.toInt; exact z1)]; rfl
    · refine ⟨(9, sm_w1 sm_n0 3 2 z), (9, sm_w1 (sm_w1 (sm_w1 sm_n0 3 2 z) 72 0 0) 72 15 z), ?_, ?_, rfl⟩
      · show (fX11_setNights z sm_n0).bind _ = _
        have e : fX11_setNights z sm_n0 = some (9, sm_w1 sm_n0 3 2 z) := by
          unfold fX11_setNights
          rw [if_neg (p_nn (by omega)), if_pos (p_let (y := 99) (by show z.toInt ≤ 99; omega))]; rfl
        rw [e]; rfl
      · show fX12_set 2 y z (sm_w1 sm_n0 3 2 z) = _
        unfold fX12_set; rw [p_in0 (x := 2) (lo := 0) (hi := 1) (by decide)]
        show (fX12_in z.toInt64 0 99 _).bind _ = _
        rw [p_in1 (by show (0 : Int) ≤ z.toInt; omega) (by show z.toInt ≤ 99; omega)]; rfl
  by_cases h3 : x = 3
  · subst h3
    by_cases z1 : z.toInt < 0 ∨ 9999 < z.toInt
    · refine ⟨(-1, sm_n0), (-1, sm_w1 sm_n0 72 0 0), ?_, ?_, rfl⟩
      · show (fX11_setFrost z sm_n0).bind _ = _
        have e : fX11_setFrost z sm_n0 = some (-1, sm_n0) := by
          unfold fX11_setFrost
          by_cases h : z.toInt < 0
          · exact if_pos (p_ltt h)
          · rw [if_neg (p_nn h), if_neg (p_lef (y := 9999) (by show (9999 : Int) < z.toInt; omega))]
        rw [e]; rfl
      · show fX12_set 3 y z sm_n0 = _
        unfold fX12_set; rw [p_in0 (x := 3) (lo := 0) (hi := 1) (by decide)]
        show (fX12_in z.toInt64 0 9999 _).bind _ = _
        rw [p_in0 (by show z.toInt < 0 ∨ (9999 : Int) < z.toInt; exact z1)]; rfl
    · refine ⟨(600, sm_w1 sm_n0 3 3 z), (600, sm_w1 (sm_w1 (sm_w1 sm_n0 3 3 z) 72 0 0) 72 16 z), ?_, ?_, rfl⟩
      · show (fX11_setFrost z sm_n0).bind _ = _
        have e : fX11_setFrost z sm_n0 = some (600, sm_w1 sm_n0 3 3 z) := by
          unfold fX11_setFrost
          rw [if_neg (p_nn (by omega)), if_pos (p_let (y := 9999) (by show z.toInt ≤ 9999; omega))]; rfl
        rw [e]; rfl
      · show fX12_set 3 y z (sm_w1 sm_n0 3 3 z) = _
        unfold fX12_set; rw [p_in0 (x := 3) (lo := 0) (hi := 1) (by decide)]
        show (fX12_in z.toInt64 0 9999 _).bind _ = _
        rw [p_in1 (by show (0 : Int) ≤ z.toInt; omega) (by show z.toInt ≤ 9999; omega)]; rfl
  · refine ⟨(-1, sm_n0), (-1, sm_w1 sm_n0 72 0 0), ?_, ?_, rfl⟩
    · unfold fX11_set; rw [if_neg h0, if_neg h1, if_neg h2, if_neg h3]
    · show fX12_set x y z sm_n0 = _
      have hx : x.toInt ≠ 0 ∧ x.toInt ≠ 1 := ⟨fun q => h0 (Int32.toInt_inj.mp q), fun q => h1 (Int32.toInt_inj.mp q)⟩
      unfold fX12_set; rw [p_in0 (x := x) (lo := 0) (hi := 1) (by show x.toInt < 0 ∨ (1 : Int) < x.toInt; omega)]
      show (if x = 2 then _ else _) = _
      rw [if_neg h2, if_neg h3]
theorem o_sheet (x y z w : Int32) : P2 (fX11_sheet x y z w sm_n0) (fX12_sheet x y z w) := by
  by_cases h1 : x.toInt < 0 ∨ 3 < x.toInt
  · refine ⟨(-1, sm_n0), (-1, sm_w1 sm_n0 72 0 0), ?_, ?_, rfl⟩
    · unfold fX11_sheet
      by_cases h : x.toInt < 0
      · exact if_pos (p_ltt h)
      · rw [if_neg (p_nn h), if_pos (p_ltt (x := 3) (by show (3 : Int) < x.toInt; omega))]
    · show fX12_sheet x y z w sm_n0 = _
      unfold fX12_sheet; rw [p_in0 (by show x.toInt < 0 ∨ (3 : Int) < x.toInt; exact h1)]; rfl
  · have a1 : ¬ x < 0 := p_nn (by omega)
    have a2 : ¬ (3 : Int32) < x := p_ltf (x := 3) (by show x.toInt ≤ 3; omega)
    have a3 : ∀ m : sm_S, fX12_in x.toInt64 0 3 m = some 1 := fun m => p_in1 (by show (0 : Int) ≤ x.toInt; omega) (by show x.toInt ≤ 3; omega)
    have f11 : ∀ n : Nat, fX11_sheet_47 (n + 1) x y z w 1 0 0 sm_n0 = some (-3, sm_n0) := fun n => rfl
    have f11' : ∀ n : Nat, fX11_sheet_47 (n + 1) x y z w 0 0 0 sm_n0 = some (0, sm_n0) := fun n => rfl
    by_cases h2 : y.toInt ≤ 14
    · have b1 : y ≤ (14 : Int32) := p_let (y := 14) h2
      by_cases h3 : x = 3
      · subst h3
        refine ⟨(-3, sm_n0), (-3, sm_w1 sm_n0 72 0 0), ?_, ?_, rfl⟩
        · unfold fX11_sheet; rw [if_neg a1, if_neg a2, if_pos b1]; rfl
        · show fX12_sheet 3 y z w sm_n0 = _
          unfold fX12_sheet; rw [a3]
          show (if y ≤ (14 : Int32) then _ else _) = _
          rw [if_pos b1]; rfl
      · by_cases h4 : y.toInt < 0
        · have b2 : ¬ (0 : Int32) ≤ y := p_lef (x := 0) (by show y.toInt < 0; exact h4)
          refine ⟨(-2, sm_n0), (-2, sm_w1 sm_n0 72 0 0), ?_, ?_, rfl⟩
          · unfold fX11_sheet; rw [if_neg a1, if_neg a2, if_pos b1, if_neg h3, if_neg b2]
          · show fX12_sheet x y z w sm_n0 = _
            unfold fX12_sheet; rw [a3]
            show (if y ≤ (14 : Int32) then _ else _) = _
            rw [if_pos b1, if_neg h3, if_neg b2]
        · have b2 : (0 : Int32) ≤ y := p_let (x := 0) (by show (0 : Int) ≤ y.toInt; omega)
          refine ⟨(0, sm_n0), (0, sm_w1 sm_n0 72 0 0), ?_, ?_, rfl⟩
          · unfold fX11_sheet; rw [if_neg a1, if_neg a2, if_pos b1, if_neg h3, if_pos b2]; rfl
          · show fX12_sheet x y z w sm_n0 = _
            unfold fX12_sheet; rw [a3]
            show (if y ≤ (14 : Int32) then _ else _) = _
            rw [if_pos b1, if_neg h3, if_pos b2]
            show (if x = (3 : Int32) then _ else _) = _
            rw [if_neg h3]
    · have b1 : ¬ y ≤ (14 : Int32) := p_lef (y := 14) (by show (14 : Int) < y.toInt; omega)
      refine ⟨(-1, sm_n0), (-1, sm_w1 sm_n0 72 0 0), ?_, ?_, rfl⟩
      · unfold fX11_sheet; rw [if_neg a1, if_neg a2, if_neg b1]
      · show fX12_sheet x y z w sm_n0 = _
        unfold fX12_sheet; rw [a3]
        show (if y ≤ (14 : Int32) then _ else _) = _
        rw [if_neg b1]
