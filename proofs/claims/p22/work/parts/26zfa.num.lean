/-! a set as a number -/
theorem num_ex (T : Nat → Bool) : ∀ n : Nat, ∃ k : Nat, k < 2 ^ n ∧ ∀ i : Nat, k.testBit i = (decide (i < n) && T i)
  | 0 => ⟨0, by decide, fun i => by rw [Nat.zero_testBit, decide_eq_false (Nat.not_lt_zero i)]; rfl⟩
  | n + 1 => by
    obtain ⟨k, h1, h2⟩ := num_ex T n
    have hlt : 2 ^ n < 2 ^ (n + 1) := Nat.pow_lt_pow_right (by decide) (Nat.lt_succ_self n)
    cases hT : T n with
    | true =>
      refine ⟨k ||| 2 ^ n, Nat.or_lt_two_pow (by omega) hlt, fun i => ?_⟩
      rw [Nat.testBit_or, Nat.testBit_two_pow, h2 i]
      by_cases q : n = i
      · subst q
        rw [decide_eq_true (p := n = n) rfl, decide_eq_true (Nat.lt_succ_self n), hT, Bool.or_true]; rfl
      · rw [decide_eq_false q, Bool.or_false, show decide (i < n + 1) = decide (i < n) from decide_eq_decide.mpr (by omega)]
    | false =>
      refine ⟨k, by omega, fun i => ?_⟩
      rw [h2 i]
      by_cases q : i = n
      · subst q
        rw [hT, Bool.and_false, Bool.and_false]
      · rw [show decide (i < n + 1) = decide (i < n) from decide_eq_decide.mpr (by omega)]
theorem par_cg {a b : Nat → Nat} {S T : Nat → Bool} {v : Nat} : ∀ {n : Nat}, (∀ k, k < n → S k = T k) → par a b S v n = par a b T v n
  | 0, _ => rfl
  | n + 1, h => by
    show (par a b S v n ^^ (S n && (decide (a n = v) ^^ decide (b n = v)))) = (par a b T v n ^^ (T n && (decide (a n = v) ^^ decide (b n = v))))
    rw [par_cg (fun k hk => h k (by omega)), h n (by omega)]
