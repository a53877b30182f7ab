/-! A TURNING THAT LEAVES EACH CORNER AS OFTEN AS IT COMES TO IT -/
/-- hedge h at v: 1 leaves, -1 comes; turned the other way round -/
def be (a b : Nat → Nat) (t : Bool) (h v : Nat) : Int := if t = true then ((if b h = v then 1 else 0) - (if a h = v then 1 else 0)) else ((if a h = v then 1 else 0) - (if b h = v then 1 else 0))
/-- leaving less coming at v, over the hedges of S below n; those of T are turned -/
def bal (a b : Nat → Nat) (S T : Nat → Bool) (v : Nat) : Nat → Int
  | 0 => 0
  | n + 1 => bal a b S T v n + (if S n = true then be a b (T n) n v else 0)
theorem bal_cg {a b : Nat → Nat} {S T T' : Nat → Bool} {v : Nat} : ∀ {n : Nat}, (∀ k, k < n → S k = true → T k = T' k) → bal a b S T v n = bal a b S T' v n
  | 0, _ => rfl
  | n + 1, h => by
    have e := bal_cg (a := a) (b := b) (v := v) (n := n) (fun k hk => h k (by omega))
    show bal a b S T v n + (if S n = true then be a b (T n) n v else 0) = bal a b S T' v n + (if S n = true then be a b (T' n) n v else 0)
    rw [e]
    by_cases q : S n = true
    · rw [if_pos q, if_pos q, h n (by omega) q]
    · rw [if_neg q, if_neg q]
theorem bal_z {a b : Nat → Nat} {S T : Nat → Bool} {v : Nat} : ∀ {n : Nat}, (∀ k, k < n → S k = false) → bal a b S T v n = 0
  | 0, _ => rfl
  | n + 1, h => by
    show bal a b S T v n + (if S n = true then be a b (T n) n v else 0) = 0
    rw [bal_z (fun k hk => h k (by omega)), h n (by omega)]
    rfl
theorem bal_rm {a b : Nat → Nat} {S T : Nat → Bool} {h v : Nat} (hS : S h = true) : ∀ {n : Nat}, bal a b S T v n = bal a b (rm S h) T v n + (if h < n then be a b (T h) h v else 0)
  | 0 => by
    rw [if_neg (Nat.not_lt_zero h)]; rfl
  | n + 1 => by
    show bal a b S T v n + (if S n = true then be a b (T n) n v else 0) = bal a b (rm S h) T v n + (if rm S h n = true then be a b (T n) n v else 0) + _
    rw [bal_rm hS (n := n)]
    by_cases e : n = h
    · subst e
      have e1 : rm S n n = false := by unfold rm; simp
      rw [if_neg (Nat.lt_irrefl n), if_pos (Nat.lt_succ_self n), if_pos hS, e1, if_neg (by decide)]
    · have e1 : rm S h n = S n := by unfold rm; rw [decide_eq_false e]; simp
      rw [e1]
      by_cases q : h < n
      · rw [if_pos q, if_pos (show h < n + 1 by omega)]; omega
      · rw [if_neg q, if_neg (show ¬ h < n + 1 by omega)]; omega
theorem par_no {a b : Nat → Nat} {S : Nat → Bool} {v : Nat} : ∀ {n : Nat}, (∀ h, h < n → S h = true → a h ≠ v ∧ b h ≠ v) → par a b S v n = false
  | 0, _ => rfl
  | n + 1, h => by
    show (par a b S v n ^^ (S n && (decide (a n = v) ^^ decide (b n = v)))) = false
    rw [par_no (fun k hk => h k (by omega))]
    cases q : S n with
    | false => rfl
    | true =>
      obtain ⟨q1, q2⟩ := h n (by omega) q
      rw [decide_eq_false q1, decide_eq_false q2]; rfl
def ic (v c : Nat) : Int := if v = c then 1 else 0
theorem be_step {a b : Nat → Nat} {h c v : Nat} (hd : a h ≠ b h) (hc : a h = c ∨ b h = c) : be a b (!decide (a h = c)) h v = ic v c - ic v (oe a b h c) := by
  have cm : ∀ p q : Nat, (if p = q then (1 : Int) else 0) = ic q p := fun p q => by
    unfold ic
    by_cases e : p = q
    · rw [if_pos e, if_pos e.symm]
    · rw [if_neg e, if_neg (fun z => e z.symm)]
  unfold be oe
  rw [cm, cm]
  by_cases e : a h = c
  · rw [decide_eq_true e, if_pos e, if_neg (by decide), e]
  · rw [decide_eq_false e, if_neg e, if_pos (show (!false) = true from rfl), hc.resolve_left e]
/-- where each corner but c and t has an even number of hedges, all can be turned so that a walk from c to t leaves and comes as it should -/
theorem bal_ex {a b : Nat → Nat} {n : Nat} (hd : ∀ k, k < n → a k ≠ b k) : ∀ (N : Nat) (S : Nat → Bool) (c t : Nat), cnt S n ≤ N → (∀ v, par a b S v n = (decide (v = c) ^^ decide (v = t))) → ∃ T : Nat → Bool, (∀ k, T k = true → S k = true) ∧ ∀ v, bal a b S T v n = ic v c - ic v t := by
  intro N
  induction N with
  | zero =>
    intro S c t hN hp
    have hz : ∀ k, k < n → S k = false := fun k hk => by
      cases q : S k with
      | false => rfl
      | true =>
        have := cnt_del (p := S) (q := rm S k) (n := n) k hk q (fun _ _ => rfl)
        omega
    have hct : c = t := by
      have := hp c
      rw [par_no (fun h hh hs => by rw [hz h hh] at hs; cases hs), decide_eq_true (p := c = c) rfl] at this
      by_cases q : c = t
      · exact q
      · rw [decide_eq_false q] at this; exact absurd this (by decide)
    subst hct
    exact ⟨fun _ => false, fun k hk => absurd (show false = true from hk) (by decide), fun v => (bal_z hz).trans (by omega)⟩
  | succ N ih =>
    intro S c t hN hp
    have step : ∀ c t : Nat, (∀ v, par a b S v n = (decide (v = c) ^^ decide (v = t))) → (∃ h, h < n ∧ S h = true ∧ (a h = c ∨ b h = c)) → ∃ T : Nat → Bool, (∀ k, T k = true → S k = true) ∧ ∀ v, bal a b S T v n = ic v c - ic v t := by
      intro c t hp hx
      obtain ⟨h, hh, hS, hc⟩ := hx
      have hdel := cnt_del (p := S) (q := rm S h) (n := n) h hh hS (fun _ _ => rfl)
      obtain ⟨T, hT, hb⟩ := ih (rm S h) (oe a b h c) t (by omega) (fun v => by
        rw [par_next hh hS hc, hp v]
        cases decide (v = c) <;> cases decide (v = t) <;> cases decide (v = oe a b h c) <;> rfl)
      refine ⟨fun k => if k = h then !decide (a h = c) else T k, fun k hk => ?_, fun v => ?_⟩
      · by_cases e : k = h
        · rw [e]; exact hS
        · have hk2 : (if k = h then !decide (a h = c) else T k) = true := hk
          rw [if_neg e] at hk2
          exact (rm_t.mp (hT k hk2)).1
      · rw [bal_rm hS (n := n), if_pos hh]
        have e1 : (if h = h then !decide (a h = c) else T h) = !decide (a h = c) := if_pos rfl
        have e2 : bal a b (rm S h) (fun k => if k = h then !decide (a h = c) else T k) v n = bal a b (rm S h) T v n := bal_cg (fun k _ hk => if_neg (rm_t.mp hk).2)
        rw [e2, hb v]
        show _ + be a b (if h = h then !decide (a h = c) else T h) h v = _
        rw [e1, be_step (hd h hh) hc]
        omega
    by_cases hx : ∃ h, h < n ∧ S h = true ∧ (a h = c ∨ b h = c)
    · exact step c t hp hx
    · have hct : c = t := by
        have := hp c
        rw [par_no (fun h hh hs => ⟨fun z => hx ⟨h, hh, hs, Or.inl z⟩, fun z => hx ⟨h, hh, hs, Or.inr z⟩⟩), decide_eq_true (p := c = c) rfl] at this
        by_cases q : c = t
        · exact q
        · rw [decide_eq_false q] at this; exact absurd this (by decide)
      subst hct
      by_cases hy : ∃ h, h < n ∧ S h = true
      · obtain ⟨h, hh, hS⟩ := hy
        obtain ⟨T, hT, hb⟩ := step (a h) (a h) (fun v => by
          rw [hp v]
          cases decide (v = c) <;> cases decide (v = a h) <;> rfl) ⟨h, hh, hS, Or.inl rfl⟩
        exact ⟨T, hT, fun v => by rw [hb v]; omega⟩
      · have hz : ∀ k, k < n → S k = false := fun k hk => by
          cases q : S k with
          | false => rfl
          | true => exact absurd ⟨k, hk, q⟩ hy
        exact ⟨fun _ => false, fun k hk => absurd (show false = true from hk) (by decide), fun v => (bal_z hz).trans (by omega)⟩
/-- and where some turning does, each corner has an even number -/
theorem bal_even {a b : Nat → Nat} {S T : Nat → Bool} {v : Nat} : ∀ {n : Nat}, ∃ q : Int, bal a b S T v n = 2 * q + (if par a b S v n = true then 1 else 0)
  | 0 => ⟨0, rfl⟩
  | n + 1 => by
    obtain ⟨q, hq⟩ := bal_even (a := a) (b := b) (S := S) (T := T) (v := v) (n := n)
    have e : bal a b S T v (n + 1) = bal a b S T v n + (if S n = true then be a b (T n) n v else 0) := rfl
    have e2 : par a b S v (n + 1) = (par a b S v n ^^ (S n && (decide (a n = v) ^^ decide (b n = v)))) := rfl
    rw [e, e2, hq]
    unfold be
    cases S n <;> cases T n <;> cases par a b S v n <;> by_cases e3 : a n = v <;> by_cases e4 : b n = v <;> simp only [e3, e4, if_true, if_false, decide_true, decide_false, Bool.xor_true, Bool.xor_false, Bool.true_and, Bool.false_and, Bool.not_true, Bool.not_false, Bool.false_eq_true, reduceIte] <;> first | exact ⟨q, by omega⟩ | exact ⟨q + 1, by omega⟩ | exact ⟨q - 1, by omega⟩
