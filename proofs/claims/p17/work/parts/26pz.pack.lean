/-- minutes and a corner in one number -/
theorem pack (w c : Int32) (hw : 0 ≤ w.toInt ∧ w.toInt ≤ 4000) (hc : 0 ≤ c.toInt ∧ c.toInt ≤ 9) : ((w <<< ((4 : Int32) &&& 31)) ||| c).toInt = 16 * w.toInt + c.toInt := by
  have ew := a_tn hw.1
  have ec := a_tn hc.1
  have e1 : w <<< ((4 : Int32) &&& 31) = nI (16 * w.toNatClampNeg) := by
    refine b_ext (fun i hi => ?_)
    have h4 : (4 : Int32) = nI 4 := rfl
    rw [h4, b_shl 4 (by decide) w hi, b_nat _ _ hi]
    conv => lhs; rw [a_nI hw.1]
    have hh : (16 * w.toNatClampNeg).testBit i = (decide (i ≥ 4) && w.toNatClampNeg.testBit (i - 4)) := by
      have : 16 * w.toNatClampNeg = 2 ^ 4 * w.toNatClampNeg := rfl
      rw [this, Nat.testBit_two_pow_mul]
    rw [hh]
    by_cases q : 4 ≤ i
    · rw [b_nat _ _ (show i - 4 < 32 by omega)]
    · rw [decide_eq_false q]; rfl
  have e2 : nI (16 * w.toNatClampNeg) ||| c = nI (16 * w.toNatClampNeg ||| c.toNatClampNeg) := by
    conv => lhs; rw [a_nI hc.1]
    exact n_or _ _
  have h16 : c.toNatClampNeg < 2 ^ 4 := by
    have h4 : (2 : Nat) ^ 4 = 16 := by decide
    omega
  have e3 : 16 * w.toNatClampNeg ||| c.toNatClampNeg = 16 * w.toNatClampNeg + c.toNatClampNeg := (Nat.two_pow_add_eq_or_of_lt h16 w.toNatClampNeg).symm
  rw [e1, e2, e3, nI_toInt (by omega)]
  omega
/-- minutes and corner out of one number -/
theorem unpack {r : Int32} (h : 0 ≤ r.toInt ∧ r.toInt ≤ 65535) : (r &&& (15 : Int32)).toInt = r.toInt % 16 ∧ (r >>> ((4 : Int32) &&& 31)).toInt = r.toInt / 16 := by
  have e := a_tn h.1
  have e4 : (r >>> ((4 : Int32) &&& 31)).toInt = r.toInt / 16 := a_shrE 4 (by decide) (by decide) (by decide)
  have q : r &&& (15 : Int32) = nI (r.toNatClampNeg &&& 15) := by
    conv => lhs; rw [a_nI h.1]
    exact n_and _ 15
  have q2 : r.toNatClampNeg &&& 15 = r.toNatClampNeg % 16 := Nat.and_two_pow_sub_one_eq_mod r.toNatClampNeg 4
  refine ⟨?_, e4⟩
  rw [q, q2, nI_toInt (by omega)]
  omega
