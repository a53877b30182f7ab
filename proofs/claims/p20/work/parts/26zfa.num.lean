/-! a set as a number -/
theorem num_ex (T : Nat → Bool) : ∀ n : Nat, ∃ k : Nat, k < 2 ^ n ∧ ∀ i : Nat, k.testBit i = (decide (i < n) && T i)
  | 0 => ⟨0, by decide, fun i => by rw [Nat.zero_testBit, decide_eq_false (Nat.not_lt_zero i)]; rfl⟩
  | n + 1 => by
    obtain ⟨k, h1, h2⟩ := num_ex T n
    have hlt : 2 ^ n < 2 ^ (n + 1) := Nat.pow_lt_pow_right (by decide) (Nat.lt_succ_self n)
    cases hT : T n with
    | true =>
      refine ⟨k ||| 2 ^ n, Nat.or_lt_two_pow (by omega) hlt, fun i => ?_⟩
      rw [Nat.testBit_or, Nat.testBit_two_pow, h2 i]
      by_cases q : n = i
      · subst q
        rw [decide_eq_true (p := n = n) rfl, decide_eq_true (Nat.lt_succ_self n), hT, Bool.or_true]; rfl
      · rw [decide_eq_false q, Bool.or_false, show decide (i < n + 1) = decide (i < n) from decide_eq_decide.mpr (by omega)]
    | false =>
      refine ⟨k, by omega, fun i => ?_⟩
      rw [h2 i]
      by_cases q : i = n
      · subst q
        rw [hT, Bool.and_false, Bool.and_false]
      · rw [show decide (i < n + 1) = decide (i < n) from decide_eq_decide.mpr (by omega)]
theorem par_cg {a b : Nat → Nat} {S T : Nat → Bool} {v : Nat} : ∀ {n : Nat}, (∀ k, k < n → S k = T k) → par a b S v n = par a b T v n
  | 0, _ => rfl
  | n + 1, h => by
    show (par a b S v n ^^ (S n && (decide (a n = v) ^^ decide (b n = v)))) = (par a b T v n ^^ (T n && (decide (a n = v) ^^ decide (b n = v))))
    rw [par_cg (fun k hk => h k (by omega)), h n (by omega)]
theorem all_e {c : Int32} {k : Nat} (h : (k : Int) = c.toInt) (h14 : k ≤ 14) : (((1 : Int32) <<< (c &&& 31)) - (1 : Int32)).toInt = ((2 ^ k : Nat) : Int) - 1 := by
  have e1 : ((1 : Int32) <<< (c &&& 31)).toInt = ((2 ^ c.toNatClampNeg : Nat) : Int) := a_shlE (by omega) (by omega)
  have e2 : c.toNatClampNeg = k := by
    have := a_tn (x := c) (by omega)
    omega
  rw [e2] at e1
  have hp1 : 0 < 2 ^ k := Nat.two_pow_pos _
  have hp2 : 2 ^ k ≤ 16384 := Nat.pow_le_pow_right (n := 2) (by decide) h14
  rw [a_subl L1 (by omega) (by omega), e1]
theorem pw14 {k : Nat} (h : k ≤ 14) : 0 < 2 ^ k ∧ 2 ^ k ≤ 16384 := ⟨Nat.two_pow_pos _, Nat.pow_le_pow_right (n := 2) (by decide) h⟩
def bcv (x : Int32) : Int32 := (fJ6_bitCount_0f7a4 x (fun _ _ => 0, fun _ _ => 0)).getD 0
theorem e_bc (x : Int32) (m : sm_S) : fJ6_bitCount_0f7a4 x m = some (bcv x) := rfl
