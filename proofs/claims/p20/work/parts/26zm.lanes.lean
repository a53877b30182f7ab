/-! THE PAIRS' TABLE: four numbers to a long -/
/-- number q of the pairs' row -/
def ln0 (m : sm_S) (q : Nat) : Int32 := lnW (m.2 30 (q / 4)) (q % 4)
theorem ln0_b (m : sm_S) (q : Nat) : 0 ≤ (ln0 m q).toInt ∧ (ln0 m q).toInt ≤ 65535 := lnW_b _ _
theorem e_at0 {m : sm_S} (hI : zI m) {x : Int32} (h0 : 0 ≤ x.toInt) (h1 : x.toInt < (m.1 29 0).toInt) : fX3_at x m = some (ln0 m x.toNatClampNeg) := by
  have c : (tB 29 0).1 ≤ (m.1 29 0).toInt ∧ (m.1 29 0).toInt ≤ (tB 29 0).2 := hI.1 29 0
  have c' : (m.1 29 0).toInt ≤ 3072 := c.2
  obtain ⟨n1, n2, n3, n4⟩ := n_lane h0 (show x.toInt < 16384 by omega)
  have l0 := L0
  unfold fX3_at
  rw [if_neg (fun z => by have := ltI.mp z; omega), if_pos (ltI.mpr h1), if_pos (ix_in (show 0 ≤ (x >>> ((2 : Int32) &&& 31)).toInt ∧ (x >>> ((2 : Int32) &&& 31)).toInt < ((769 : Nat) : Int) by omega)), n1, n4]
  rfl
theorem e_put0 {m : sm_S} (hI : zI m) {x v : Int32} (h0 : 0 ≤ x.toInt) (h1 : x.toInt < (m.1 29 0).toInt) (hv : 0 ≤ v.toInt ∧ v.toInt ≤ 65535) : ∃ m', fX3_put x v m = some m' ∧ m'.1 = m.1 ∧ (∀ a : Nat, a ≠ 30 → m'.2 a = m.2 a) ∧ ∀ q : Nat, ln0 m' q = if q = x.toNatClampNeg then v else ln0 m q := by
  have c : (tB 29 0).1 ≤ (m.1 29 0).toInt ∧ (m.1 29 0).toInt ≤ (tB 29 0).2 := hI.1 29 0
  have c' : (m.1 29 0).toInt ≤ 3072 := c.2
  obtain ⟨n1, n2, n3, n4⟩ := n_lane h0 (show x.toInt < 16384 by omega)
  have l0 := L0
  have l65535 := L65535
  have hx : 0 ≤ (x >>> ((2 : Int32) &&& 31)).toInt ∧ (x >>> ((2 : Int32) &&& 31)).toInt < ((769 : Nat) : Int) := by omega
  unfold fX3_put
  rw [if_neg (fun z => by have := ltI.mp z; omega), if_neg (fun z => by have := leI.mp z; omega), if_pos (ix_in hx), if_pos (ix_in hx), if_neg (fun z => by have := ltI.mp z; omega), n1, n4]
  refine ⟨_, rfl, rfl, fun a ha => ?_, fun q => ?_⟩
  · exact funext (fun j => by show sm_u m.2 30 _ _ a j = m.2 a j; exact sm_u_cell ha)
  · show lnW ((sm_w2 m 30 (x.toNatClampNeg / 4) (ptW (m.2 30 (x.toNatClampNeg / 4)) (x.toNatClampNeg % 4) v)).2 30 (q / 4)) (q % 4) = _
    by_cases g : q / 4 = x.toNatClampNeg / 4
    · rw [g, r2_hit, ln_pt _ (by omega) (by omega) hv]
      by_cases g2 : q % 4 = x.toNatClampNeg % 4
      · rw [if_pos g2, if_pos (by omega)]
      · rw [if_neg g2, if_neg (fun z => g2 (by rw [z]))]
        show lnW (m.2 30 (x.toNatClampNeg / 4)) (q % 4) = lnW (m.2 30 (q / 4)) (q % 4)
        rw [g]
    · rw [r2_place g, if_neg (fun z => g (by rw [z]))]
      rfl
