/-! THE BIT COUNT OF A SET OF HEDGES -/
def bc14 (k : Nat) : Bool := match fJ6_bitCount_0f7a4 (nI k) (fun _ _ => 0, fun _ _ => 0) with
  | some r => decide (r.toInt = ((cnt (fun i => k.testBit i) 14 : Nat) : Int))
  | none => false
def bcD (k : Nat) : Bool := match fJ6_bitCount_0f7a4 (nI k) (fun _ _ => 0, fun _ _ => 0) with
  | some r => match fJ6_bitCount_0f7a4 (nI (2 * k)) (fun _ _ => 0, fun _ _ => 0) with
    | some r0 => match fJ6_bitCount_0f7a4 (nI (2 * k + 1)) (fun _ _ => 0, fun _ _ => 0) with
      | some r1 => decide (r0.toInt = r.toInt) && decide (r1.toInt = r.toInt + 1)
      | none => false
    | none => false
  | none => false
theorem bcD_ok : ∀ i, i < 128 → ∀ j, j < 64 → bcD (64 * i + j) = true := by decide +kernel
theorem cnt_front {p : Nat → Bool} : ∀ n : Nat, cnt p (n + 1) = (if p 0 = true then 1 else 0) + cnt (fun i => p (i + 1)) n
  | 0 => by show 0 + (if p 0 = true then 1 else 0) = (if p 0 = true then 1 else 0) + 0; omega
  | n + 1 => by
    have e1 : cnt p (n + 1 + 1) = cnt p (n + 1) + (if p (n + 1) = true then 1 else 0) := rfl
    have e2 : cnt (fun i => p (i + 1)) (n + 1) = cnt (fun i => p (i + 1)) n + (if p (n + 1) = true then 1 else 0) := rfl
    rw [e1, e2, cnt_front n]; omega
theorem bc_some2 (k : Nat) : ∃ r, fJ6_bitCount_0f7a4 (nI k) (fun _ _ => 0, fun _ _ => 0) = some r := ⟨_, rfl⟩
theorem bc_rec : ∀ (n k : Nat), n ≤ 14 → k < 2 ^ n → ∃ r, fJ6_bitCount_0f7a4 (nI k) (fun _ _ => 0, fun _ _ => 0) = some r ∧ r.toInt = ((cnt (fun i => k.testBit i) n : Nat) : Int) := by
  intro n
  induction n with
  | zero =>
    intro k _ hk
    have : k = 0 := by
      have : 2 ^ 0 = 1 := rfl
      omega
    subst this
    exact ⟨0, by decide +kernel, by decide⟩
  | succ n ih =>
    intro k hn hk
    have e2 : 2 ^ (n + 1) = 2 ^ n * 2 := Nat.pow_succ 2 n
    have p13 : 2 ^ n ≤ 2 ^ 13 := Nat.pow_le_pow_right (by decide) (by omega)
    have e13 : 2 ^ 13 = 8192 := by decide
    obtain ⟨r, er, hr⟩ := ih (k / 2) (by omega) (by omega)
    have q := bcD_ok (k / 2 / 64) (by omega) (k / 2 % 64) (by omega)
    rw [show 64 * (k / 2 / 64) + k / 2 % 64 = k / 2 by omega] at q
    obtain ⟨r0, e0⟩ := bc_some2 (2 * (k / 2))
    obtain ⟨r1, e1⟩ := bc_some2 (2 * (k / 2) + 1)
    unfold bcD at q
    rw [er, e0, e1] at q
    have q' : (decide (r0.toInt = r.toInt) && decide (r1.toInt = r.toInt + 1)) = true := q
    obtain ⟨q0, q1⟩ := Bool.and_eq_true_iff.mp q'
    have q0 := of_decide_eq_true q0
    have q1 := of_decide_eq_true q1
    have ec : cnt (fun i => k.testBit i) (n + 1) = (if k.testBit 0 = true then 1 else 0) + cnt (fun i => (k / 2).testBit i) n := by
      rw [cnt_front]
      refine congrArg _ (cnt_cong (fun i _ => ?_))
      exact Nat.testBit_succ k i
    have eb : k.testBit 0 = decide (k % 2 = 1) := Nat.testBit_zero k
    rw [ec, eb]
    by_cases z : k % 2 = 1
    · rw [decide_eq_true z, if_pos rfl]
      refine ⟨r1, ?_, by omega⟩
      rw [← e1, show 2 * (k / 2) + 1 = k by omega]
    · rw [decide_eq_false z, if_neg (by decide)]
      refine ⟨r0, ?_, by omega⟩
      rw [← e0, show 2 * (k / 2) = k by omega]
theorem bc14_ok (i : Nat) (hi : i < 128) (j : Nat) (hj : j < 128) : bc14 (128 * i + j) = true := by
  obtain ⟨r, e, h⟩ := bc_rec 14 (128 * i + j) (Nat.le_refl _) (by
    have e14 : 2 ^ 14 = 16384 := by decide
    omega)
  unfold bc14
  rw [e]
  exact decide_eq_true h
theorem s_bc14 {x : Int32} (m : sm_S) (hx : 0 ≤ x.toInt ∧ x.toInt ≤ 16383) : Sf (fun r => r.toInt = ((cnt (bt x) 14 : Nat) : Int)) (fJ6_bitCount_0f7a4 x m) := by
  have e := a_tn hx.1
  have ex := a_nI hx.1
  have q := bc14_ok (x.toNatClampNeg / 128) (by omega) (x.toNatClampNeg % 128) (by omega)
  rw [show 128 * (x.toNatClampNeg / 128) + x.toNatClampNeg % 128 = x.toNatClampNeg by omega] at q
  unfold bc14 at q
  rw [← ex, show fJ6_bitCount_0f7a4 x (fun _ _ => 0, fun _ _ => 0) = fJ6_bitCount_0f7a4 x m from rfl] at q
  have hc : cnt (fun i => x.toNatClampNeg.testBit i) 14 = cnt (bt x) 14 := cnt_cong (fun i hi => by
    have := b_nat x.toNatClampNeg i (by omega)
    rw [← ex] at this
    exact this.symm)
  cases hr : fJ6_bitCount_0f7a4 x m with
  | none => rw [hr] at q; exact absurd q Bool.false_ne_true
  | some r =>
    rw [hr] at q
    exact ⟨r, rfl, (of_decide_eq_true q).trans (by rw [hc])⟩
