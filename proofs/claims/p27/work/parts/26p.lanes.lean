/-! FOUR NUMBERS TO A LONG -/
theorem bl_and (x y : Int64) (i : Nat) : bl (x &&& y) i = (bl x i && bl y i) := by unfold bl; rw [Int64.toBitVec_and, BitVec.getLsbD_and]
theorem bl_xor (x y : Int64) (i : Nat) : bl (x ^^^ y) i = (bl x i ^^ bl y i) := by unfold bl; rw [Int64.toBitVec_xor, BitVec.getLsbD_xor]
theorem bl_m1 : ∀ i, i < 64 → bl (-1) i = true := by decide +kernel
theorem bl_sn : ∀ n, n < 4 → ((((nI n) <<< ((4 : Int32) &&& 31)).toInt64 &&& 63).toBitVec.smod 64).toNat = 16 * n := by decide +kernel
theorem bl_shlN (x : Int64) {n : Nat} (hn : n < 4) {i : Nat} (hi : i < 64) : bl (x <<< (((nI n) <<< ((4 : Int32) &&& 31)).toInt64 &&& 63)) i = (decide (16 * n ≤ i) && bl x (i - 16 * n)) := by
  unfold bl
  rw [Int64.toBitVec_shiftLeft]
  show (x.toBitVec <<< ((((nI n) <<< ((4 : Int32) &&& 31)).toInt64 &&& 63).toBitVec.smod 64).toNat).getLsbD i = _
  rw [bl_sn n hn, BitVec.getLsbD_shiftLeft]
  rcases Nat.lt_or_ge i (16 * n) with h | h
  · simp [h, Nat.not_le.mpr h]
  · simp [hi, h, Nat.not_lt.mpr h]
theorem bl_shrN (x : Int64) {n : Nat} (hn : n < 4) {i : Nat} (hi : 16 * n + i < 64) : bl (x >>> (((nI n) <<< ((4 : Int32) &&& 31)).toInt64 &&& 63)) i = bl x (16 * n + i) := by
  unfold bl
  rw [Int64.toBitVec_shiftRight]
  show (x.toBitVec.sshiftRight ((((nI n) <<< ((4 : Int32) &&& 31)).toInt64 &&& 63).toBitVec.smod 64).toNat).getLsbD i = _
  rw [bl_sn n hn, BitVec.getLsbD_sshiftRight]
  have : i < 64 := by omega
  simp [hi, this]
theorem b_65535 : ∀ i, i < 32 → bt 65535 i = decide (i < 16) := by decide +kernel
theorem bl_65535 : ∀ i, i < 64 → bl 65535 i = decide (i < 16) := by decide +kernel
theorem bt_64 (x : Int64) {i : Nat} (hi : i < 32) : bt x.toInt32 i = bl x i := by
  unfold bt bl
  rw [Int64.toBitVec_toInt32, BitVec.getLsbD_signExtend]
  have : i < 64 := by omega
  simp [hi, this]
theorem bl_32 {x : Int32} (h : 0 ≤ x.toInt) {i : Nat} (hi : i < 64) : bl x.toInt64 i = bt x i := by
  have hm : x.toBitVec.msb = false := by
    rw [BitVec.msb_eq_toInt, Int32.toInt_toBitVec]
    exact decide_eq_false (by omega)
  unfold bt bl
  rw [Int32.toBitVec_toInt64, BitVec.getLsbD_signExtend, hm]
  rcases Nat.lt_or_ge i 32 with q | q
  · simp [hi, q]
  · have : x.toBitVec.getLsbD i = false := BitVec.getLsbD_of_ge _ _ q
    simp [hi, Nat.not_lt.mpr q, this]
/-- lane n of a word; a lane is put -/
def lnW (w : Int64) (n : Nat) : Int32 := ((w >>> (((nI n) <<< ((4 : Int32) &&& 31)).toInt64 &&& 63))).toInt32 &&& (65535 : Int32)
def ptW (w : Int64) (n : Nat) (v : Int32) : Int64 := (w &&& (((65535 : Int64) <<< (((nI n) <<< ((4 : Int32) &&& 31)).toInt64 &&& 63)) ^^^ (-1 : Int64))) ||| (v.toInt64 <<< (((nI n) <<< ((4 : Int32) &&& 31)).toInt64 &&& 63))
theorem lnW_bt (w : Int64) {n : Nat} (hn : n < 4) {i : Nat} (hi : i < 32) : bt (lnW w n) i = (decide (i < 16) && bl w (16 * n + i)) := by
  unfold lnW
  rw [b_and, b_65535 i hi]
  by_cases q : i < 16
  · rw [bt_64 _ hi, bl_shrN w hn (by omega), decide_eq_true q, Bool.and_true, Bool.true_and]
  · rw [decide_eq_false q, Bool.and_false, Bool.false_and]
theorem lnW_b (w : Int64) (n : Nat) : 0 ≤ (lnW w n).toInt ∧ (lnW w n).toInt ≤ 65535 := by
  have h := a_andr (x := ((w >>> (((nI n) <<< ((4 : Int32) &&& 31)).toInt64 &&& 63))).toInt32) (y := (65535 : Int32)) (by decide)
  rw [L65535] at h
  exact h
theorem ptW_bl (w : Int64) {n : Nat} (hn : n < 4) {v : Int32} (hv : 0 ≤ v.toInt ∧ v.toInt ≤ 65535) {j : Nat} (hj : j < 64) : bl (ptW w n v) j = if 16 * n ≤ j ∧ j < 16 * n + 16 then bt v (j - 16 * n) else bl w j := by
  unfold ptW
  have hb : ∀ i, 16 ≤ i → bt v i = false := fun i h => b_hi (k := 16) hv.1 (by omega) h
  rw [bl_or, bl_and, bl_xor, bl_shlN _ hn hj, bl_shlN _ hn hj, bl_m1 j hj, bl_32 hv.1 (show j - 16 * n < 64 by omega), bl_65535 (j - 16 * n) (by omega)]
  by_cases q : 16 * n ≤ j
  · by_cases q2 : j < 16 * n + 16
    · rw [if_pos ⟨q, q2⟩, decide_eq_true q, decide_eq_true (show j - 16 * n < 16 by omega)]; simp
    · rw [if_neg (fun z => q2 z.2), decide_eq_true q, decide_eq_false (show ¬ j - 16 * n < 16 by omega), hb _ (by omega)]; simp
  · rw [if_neg (fun z => q z.1), decide_eq_false q]; simp
theorem ln_pt (w : Int64) {n k : Nat} (hn : n < 4) (hk : k < 4) {v : Int32} (hv : 0 ≤ v.toInt ∧ v.toInt ≤ 65535) : lnW (ptW w n v) k = if k = n then v else lnW w k := by
  have hb : ∀ i, 16 ≤ i → bt v i = false := fun i h => b_hi (k := 16) hv.1 (by omega) h
  by_cases q : k = n
  · rw [if_pos q]
    refine b_ext (fun i hi => ?_)
    rw [lnW_bt _ hk hi]
    by_cases g : i < 16
    · rw [decide_eq_true g, Bool.true_and, ptW_bl w hn hv (by omega), if_pos (by omega), show 16 * k + i - 16 * n = i by omega]
    · rw [decide_eq_false g, hb i (by omega)]; rfl
  · rw [if_neg q]
    refine b_ext (fun i hi => ?_)
    rw [lnW_bt _ hk hi, lnW_bt _ hk hi]
    by_cases g : i < 16
    · rw [ptW_bl w hn hv (by omega), if_neg (by omega)]
    · rw [decide_eq_false g]; rfl
theorem n_lane {x : Int32} (h0 : 0 ≤ x.toInt) (h1 : x.toInt < 16384) : (x >>> ((2 : Int32) &&& 31)).toNatClampNeg = x.toNatClampNeg / 4 ∧ 0 ≤ (x >>> ((2 : Int32) &&& 31)).toInt ∧ (x >>> ((2 : Int32) &&& 31)).toInt = x.toInt / 4 ∧ x &&& (3 : Int32) = nI (x.toNatClampNeg % 4) := by
  have e := a_tn h0
  have e2 : (x >>> ((2 : Int32) &&& 31)).toInt = x.toInt / 4 := a_shrE 2 (by decide) (by decide) (by decide)
  have q : x &&& (3 : Int32) = nI (x.toNatClampNeg &&& 3) := by
    conv => lhs; rw [a_nI h0]
    exact n_and _ 3
  have q2 : x.toNatClampNeg &&& 3 = x.toNatClampNeg % 4 := Nat.and_two_pow_sub_one_eq_mod x.toNatClampNeg 2
  have e7 := a_tn (x := (x >>> ((2 : Int32) &&& 31))) (by omega)
  exact ⟨by omega, by omega, e2, by rw [q, q2]⟩
/-- number q of the trips' row -/
def ln1 (m : sm_S) (q : Nat) : Int32 := lnW (m.2 33 (q / 4)) (q % 4)
theorem ln1_b (m : sm_S) (q : Nat) : 0 ≤ (ln1 m q).toInt ∧ (ln1 m q).toInt ≤ 65535 := lnW_b _ _
theorem e_at1 {m : sm_S} (hI : zI m) {x : Int32} (h0 : 0 ≤ x.toInt) (h1 : x.toInt < (m.1 32 0).toInt) : fX3_at_i1 x m = some (ln1 m x.toNatClampNeg) := by
  have c : (tB 32 0).1 ≤ (m.1 32 0).toInt ∧ (m.1 32 0).toInt ≤ (tB 32 0).2 := hI.1 32 0
  have c' : (m.1 32 0).toInt ≤ 16384 := c.2
  obtain ⟨n1, n2, n3, n4⟩ := n_lane h0 (show x.toInt < 16384 by omega)
  have l0 := L0
  unfold fX3_at_i1
  rw [if_neg (fun z => by have := ltI.mp z; omega), if_pos (ltI.mpr h1), if_pos (ix_in (show 0 ≤ (x >>> ((2 : Int32) &&& 31)).toInt ∧ (x >>> ((2 : Int32) &&& 31)).toInt < ((4097 : Nat) : Int) by omega)), n1, n4]
  rfl
theorem e_put1 {m : sm_S} (hI : zI m) {x v : Int32} (h0 : 0 ≤ x.toInt) (h1 : x.toInt < (m.1 32 0).toInt) (hv : 0 ≤ v.toInt ∧ v.toInt ≤ 65535) : ∃ m', fX3_put_i1 x v m = some m' ∧ m'.1 = m.1 ∧ (∀ a : Nat, a ≠ 33 → m'.2 a = m.2 a) ∧ ∀ q : Nat, ln1 m' q = if q = x.toNatClampNeg then v else ln1 m q := by
  have c : (tB 32 0).1 ≤ (m.1 32 0).toInt ∧ (m.1 32 0).toInt ≤ (tB 32 0).2 := hI.1 32 0
  have c' : (m.1 32 0).toInt ≤ 16384 := c.2
  obtain ⟨n1, n2, n3, n4⟩ := n_lane h0 (show x.toInt < 16384 by omega)
  have l0 := L0
  have l65535 := L65535
  have hx : 0 ≤ (x >>> ((2 : Int32) &&& 31)).toInt ∧ (x >>> ((2 : Int32) &&& 31)).toInt < ((4097 : Nat) : Int) := by omega
  unfold fX3_put_i1
  rw [if_neg (fun z => by have := ltI.mp z; omega), if_neg (fun z => by have := leI.mp z; omega), if_pos (ix_in hx), if_pos (ix_in hx), if_neg (fun z => by have := ltI.mp z; omega), n1, n4]
  refine ⟨_, rfl, rfl, fun a ha => ?_, fun q => ?_⟩
  · exact funext (fun j => by show sm_u m.2 33 _ _ a j = m.2 a j; exact sm_u_cell ha)
  · show lnW ((sm_w2 m 33 (x.toNatClampNeg / 4) (ptW (m.2 33 (x.toNatClampNeg / 4)) (x.toNatClampNeg % 4) v)).2 33 (q / 4)) (q % 4) = _
    by_cases g : q / 4 = x.toNatClampNeg / 4
    · rw [g, r2_hit, ln_pt _ (by omega) (by omega) hv]
      by_cases g2 : q % 4 = x.toNatClampNeg % 4
      · rw [if_pos g2, if_pos (by omega)]
      · rw [if_neg g2, if_neg (fun z => g2 (by rw [z]))]
        show lnW (m.2 33 (x.toNatClampNeg / 4)) (q % 4) = lnW (m.2 33 (q / 4)) (q % 4)
        rw [g]
    · rw [r2_place g, if_neg (fun z => g (by rw [z]))]
      rfl
