/-- leaving less coming, by two counts -/
theorem bal_cnt {a b : Nat → Nat} {T : Nat → Bool} {v : Nat} : ∀ {n : Nat}, (∀ k, k < n → a k ≠ b k) → bal a b (fun _ => true) T v n = 2 * ((cnt (fun i => (decide (a i = v) && !T i) || (decide (b i = v) && T i)) n : Nat) : Int) - ((cnt (fun i => decide (a i = v) || decide (b i = v)) n : Nat) : Int)
  | 0, _ => rfl
  | n + 1, h => by
    have e := bal_cnt (a := a) (b := b) (T := T) (v := v) (n := n) (fun k hk => h k (by omega))
    have hd := h n (by omega)
    have e1 : bal a b (fun _ => true) T v (n + 1) = bal a b (fun _ => true) T v n + be a b (T n) n v := rfl
    have e2 : cnt (fun i => (decide (a i = v) && !T i) || (decide (b i = v) && T i)) (n + 1) = cnt (fun i => (decide (a i = v) && !T i) || (decide (b i = v) && T i)) n + (if ((decide (a n = v) && !T n) || (decide (b n = v) && T n)) = true then 1 else 0) := rfl
    have e3 : cnt (fun i => decide (a i = v) || decide (b i = v)) (n + 1) = cnt (fun i => decide (a i = v) || decide (b i = v)) n + (if (decide (a n = v) || decide (b n = v)) = true then 1 else 0) := rfl
    rw [e1, e2, e3, e]
    generalize cnt (fun i => (decide (a i = v) && !T i) || (decide (b i = v) && T i)) n = A
    generalize cnt (fun i => decide (a i = v) || decide (b i = v)) n = B
    unfold be
    by_cases q : a n = v
    · have q2 : ¬ b n = v := fun z => hd (q.trans z.symm)
      rw [if_pos q, if_neg q2, decide_eq_true q, decide_eq_false q2]
      cases T n <;> simp <;> omega
    · by_cases q2 : b n = v
      · rw [if_neg q, if_pos q2, decide_eq_false q, decide_eq_true q2]
        cases T n <;> simp <;> omega
      · rw [if_neg q, if_neg q2, decide_eq_false q, decide_eq_false q2]
        cases T n <;> simp <;> omega
