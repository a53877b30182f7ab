/-! WALKS: of a row of hedges that can all be walked from c, some hedge at c leaves the others so -/
noncomputable def pb (p : Prop) : Bool := @decide p (Classical.propDecidable p)
theorem pb_t {p : Prop} : pb p = true ↔ p := by
  unfold pb
  exact @decide_eq_true_iff p (Classical.propDecidable p)
theorem pb_c {p q : Prop} (h : p ↔ q) : pb p = pb q := by rw [propext h]
/-- x and y hang together: no colouring that every hedge of S keeps tells them apart -/
def cn (a b : Nat → Nat) (n : Nat) (S : Nat → Bool) (x y : Nat) : Prop := ∀ P : Nat → Bool, (∀ h, h < n → S h = true → P (a h) = P (b h)) → P x = P y
section GR
variable {a b : Nat → Nat} {n : Nat} {S T : Nat → Bool} {x y z c w h : Nat}
theorem cn.refl : cn a b n S x x := fun _ _ => rfl
theorem cn.symm (h1 : cn a b n S x y) : cn a b n S y x := fun P hP => (h1 P hP).symm
theorem cn.trans (h1 : cn a b n S x y) (h2 : cn a b n S y z) : cn a b n S x z := fun P hP => (h1 P hP).trans (h2 P hP)
theorem cn.edge (hn : h < n) (hS : S h = true) : cn a b n S (a h) (b h) := fun P hP => hP h hn hS
theorem cn.mono (hST : ∀ k, k < n → S k = true → T k = true) (h1 : cn a b n S x y) : cn a b n T x y := fun P hP => h1 P (fun k hk hs => hP k hk (hST k hk hs))
def rm (S : Nat → Bool) (h : Nat) : Nat → Bool := fun k => S k && !decide (k = h)
theorem rm_t {k : Nat} : rm S h k = true ↔ S k = true ∧ k ≠ h := by
  unfold rm
  rw [Bool.and_eq_true_iff]
  constructor
  · rintro ⟨h1, h2⟩; exact ⟨h1, fun e => by rw [decide_eq_true e] at h2; cases h2⟩
  · rintro ⟨h1, h2⟩; exact ⟨h1, by rw [decide_eq_false h2]; rfl⟩
theorem rm_sub (k : Nat) (hk : k < n) (h1 : rm S h k = true) : S k = true := (rm_t.mp h1).1
/-- whether an odd number of hedges of S end at v -/
def par (a b : Nat → Nat) (S : Nat → Bool) (v : Nat) : Nat → Bool
  | 0 => false
  | n + 1 => (par a b S v n) ^^ (S n && (decide (a n = v) ^^ decide (b n = v)))
def xs (f : Nat → Bool) : Nat → Bool
  | 0 => false
  | n + 1 => xs f n ^^ f n
theorem xs_false {f : Nat → Bool} : ∀ {N : Nat}, (∀ v, v < N → f v = false) → xs f N = false
  | 0, _ => rfl
  | N + 1, h => by
    show (xs f N ^^ f N) = false
    rw [xs_false (fun v hv => h v (by omega)), h N (by omega)]; rfl
theorem xs_cong {f g : Nat → Bool} : ∀ {N : Nat}, (∀ v, v < N → f v = g v) → xs f N = xs g N
  | 0, _ => rfl
  | N + 1, h => by
    show (xs f N ^^ f N) = (xs g N ^^ g N)
    rw [xs_cong (fun v hv => h v (by omega)), h N (by omega)]
theorem xs_xor {f g : Nat → Bool} : ∀ {N : Nat}, xs (fun v => f v ^^ g v) N = (xs f N ^^ xs g N)
  | 0 => rfl
  | N + 1 => by
    show (xs (fun v => f v ^^ g v) N ^^ (f N ^^ g N)) = ((xs f N ^^ f N) ^^ (xs g N ^^ g N))
    rw [xs_xor]
    cases xs f N <;> cases xs g N <;> cases f N <;> cases g N <;> rfl
theorem xs_pick {P : Nat → Bool} {e : Nat} : ∀ {N : Nat}, e < N → xs (fun v => P v && decide (e = v)) N = P e
  | 0, h => absurd h (Nat.not_lt_zero _)
  | N + 1, h => by
    show (xs (fun v => P v && decide (e = v)) N ^^ (P N && decide (e = N))) = P e
    by_cases q : e = N
    · subst q
      rw [xs_false (fun v hv => by rw [decide_eq_false (by omega), Bool.and_false]), decide_eq_true rfl, Bool.and_true, Bool.false_xor]
    · rw [xs_pick (by omega), decide_eq_false q, Bool.and_false, Bool.xor_false]
theorem hand {P : Nat → Bool} {N : Nat} : ∀ {n : Nat}, (∀ h, h < n → S h = true → P (a h) = P (b h)) → (∀ h, h < n → S h = true → a h < N ∧ b h < N) → xs (fun v => P v && par a b S v n) N = false
  | 0, _, _ => xs_false (fun v _ => by show (P v && false) = false; rw [Bool.and_false])
  | n + 1, h1, h2 => by
    have e : xs (fun v => P v && par a b S v (n + 1)) N = (xs (fun v => P v && par a b S v n) N ^^ xs (fun v => P v && (S n && (decide (a n = v) ^^ decide (b n = v)))) N) := by
      rw [← xs_xor]
      refine xs_cong (fun v _ => ?_)
      show (P v && (par a b S v n ^^ (S n && (decide (a n = v) ^^ decide (b n = v))))) = _
      cases P v <;> rfl
    rw [e, hand (fun h hh => h1 h (by omega)) (fun h hh => h2 h (by omega)), Bool.false_xor]
    cases hs : S n with
    | false => exact xs_false (fun v _ => by rw [Bool.false_and, Bool.and_false])
    | true =>
      have e2 : xs (fun v => P v && (true && (decide (a n = v) ^^ decide (b n = v)))) N = (xs (fun v => P v && decide (a n = v)) N ^^ xs (fun v => P v && decide (b n = v)) N) := by
        rw [← xs_xor]
        refine xs_cong (fun v _ => ?_)
        cases P v <;> rfl
      have q := h2 n (by omega) hs
      rw [e2, xs_pick q.1, xs_pick q.2, h1 n (by omega) hs]
      cases P (b n) <;> rfl
theorem par_hi {v N : Nat} : ∀ {n : Nat}, (∀ h, h < n → S h = true → a h < N ∧ b h < N) → N ≤ v → par a b S v n = false
  | 0, _, _ => rfl
  | n + 1, h1, h2 => by
    show (par a b S v n ^^ (S n && (decide (a n = v) ^^ decide (b n = v)))) = false
    rw [par_hi (fun h hh => h1 h (by omega)) h2]
    cases hs : S n with
    | false => rfl
    | true =>
      have q := h1 n (by omega) hs
      rw [decide_eq_false (by omega), decide_eq_false (by omega)]; rfl
theorem par_rm {v : Nat} : ∀ {n : Nat}, par a b (rm S h) v n = (par a b S v n ^^ (decide (h < n) && (S h && (decide (a h = v) ^^ decide (b h = v)))))
  | 0 => rfl
  | n + 1 => by
    show (par a b (rm S h) v n ^^ (rm S h n && (decide (a n = v) ^^ decide (b n = v)))) = ((par a b S v n ^^ (S n && (decide (a n = v) ^^ decide (b n = v)))) ^^ _)
    rw [par_rm]
    unfold rm
    by_cases e : n = h
    · subst e
      rw [decide_eq_false (Nat.lt_irrefl n), decide_eq_true (Nat.lt_succ_self n), decide_eq_true rfl]
      cases par a b S v n <;> cases S n <;> cases (decide (a n = v) ^^ decide (b n = v)) <;> rfl
    · rw [decide_eq_false e, show decide (h < n + 1) = decide (h < n) from decide_eq_decide.mpr (by omega)]
      cases par a b S v n <;> cases S n <;> cases (decide (a n = v) ^^ decide (b n = v)) <;> cases decide (h < n) <;> cases S h <;> cases (decide (a h = v) ^^ decide (b h = v)) <;> rfl
def oe (a b : Nat → Nat) (h c : Nat) : Nat := if a h = c then b h else a h
theorem oe_ends {v : Nat} (hc : a h = c ∨ b h = c) : (decide (a h = v) ^^ decide (b h = v)) = (decide (v = c) ^^ decide (v = oe a b h c)) := by
  have cm : ∀ p q : Nat, decide (p = q) = decide (q = p) := fun p q => decide_eq_decide.mpr ⟨Eq.symm, Eq.symm⟩
  unfold oe
  by_cases e : a h = c
  · rw [if_pos e, e, cm v c, cm v (b h)]
  · rw [if_neg e, (hc.resolve_left e), cm v c, cm v (a h)]
    cases decide (a h = v) <;> cases decide (c = v) <;> rfl
theorem oe_cn (hn : h < n) (hS : S h = true) (hc : a h = c ∨ b h = c) : cn a b n S c (oe a b h c) := by
  unfold oe
  by_cases e : a h = c
  · rw [if_pos e, ← e]; exact cn.edge hn hS
  · rw [if_neg e, ← hc.resolve_left e]; exact (cn.edge hn hS).symm
theorem oe_ne (hd : a h ≠ b h) (hc : a h = c ∨ b h = c) : oe a b h c ≠ c := by
  unfold oe
  by_cases e : a h = c
  · rw [if_pos e, ← e]; exact fun q => hd q.symm
  · rw [if_neg e]; exact e
theorem oe_lt {N : Nat} (hN : a h < N ∧ b h < N) : oe a b h c < N := by
  unfold oe; split
  · exact hN.2
  · exact hN.1
/-- all hedges of S can be walked one behind the other from c -/
def GE (a b : Nat → Nat) (n : Nat) (S : Nat → Bool) (c : Nat) : Prop := (∀ h, h < n → S h = true → cn a b n S c (a h)) ∧ ((∀ v, par a b S v n = false) ∨ ∃ t, t ≠ c ∧ ∀ v, par a b S v n = (decide (v = c) ^^ decide (v = t)))
theorem odd_comp {N : Nat} {t : Nat} (hN : ∀ k, k < n → S k = true → a k < N ∧ b k < N) (hw : w < N) (ht : t < N) (hp : ∀ v, par a b S v n = (decide (v = t) ^^ decide (v = w))) : cn a b n S w t := by
  have cm : ∀ p q : Nat, decide (p = q) = decide (q = p) := fun p q => decide_eq_decide.mpr ⟨Eq.symm, Eq.symm⟩
  have q := hand (a := a) (b := b) (S := S) (P := fun x => pb (cn a b n S w x)) (N := N) (n := n) (fun k hk hs => pb_c ⟨fun z => z.trans (cn.edge hk hs), fun z => z.trans (cn.edge hk hs).symm⟩) hN
  have e : xs (fun v => pb (cn a b n S w v) && par a b S v n) N = (xs (fun v => pb (cn a b n S w v) && decide (t = v)) N ^^ xs (fun v => pb (cn a b n S w v) && decide (w = v)) N) := by
    rw [← xs_xor]
    refine xs_cong (fun v _ => ?_)
    rw [hp v, cm v t, cm v w]
    cases pb (cn a b n S w v) <;> rfl
  rw [e, xs_pick ht, xs_pick hw, pb_t.mpr cn.refl] at q
  refine pb_t.mp ?_
  cases hb : pb (cn a b n S w t) with
  | true => rfl
  | false => rw [hb] at q; cases q
theorem par_next {v : Nat} (hn : h < n) (hS : S h = true) (hc : a h = c ∨ b h = c) : par a b (rm S h) v n = (par a b S v n ^^ (decide (v = c) ^^ decide (v = oe a b h c))) := by
  rw [par_rm, decide_eq_true hn, hS, oe_ends hc]; rfl
theorem next_par (hn : h < n) (hS : S h = true) (hd : a h ≠ b h) (hc : a h = c ∨ b h = c) (hp : (∀ v, par a b S v n = false) ∨ ∃ t, t ≠ c ∧ ∀ v, par a b S v n = (decide (v = c) ^^ decide (v = t))) : (∀ v, par a b (rm S h) v n = false) ∨ ∃ t, t ≠ oe a b h c ∧ ∀ v, par a b (rm S h) v n = (decide (v = oe a b h c) ^^ decide (v = t)) := by
  rcases hp with hp | ⟨t, ht, hp⟩
  · refine Or.inr ⟨c, (oe_ne hd hc).symm, fun v => ?_⟩
    rw [par_next hn hS hc, hp v]
    cases decide (v = c) <;> cases decide (v = oe a b h c) <;> rfl
  · by_cases e : t = oe a b h c
    · refine Or.inl (fun v => ?_)
      rw [par_next hn hS hc, hp v, e]
      cases decide (v = c) <;> cases decide (v = oe a b h c) <;> rfl
    · refine Or.inr ⟨t, e, fun v => ?_⟩
      rw [par_next hn hS hc, hp v]
      cases decide (v = c) <;> cases decide (v = oe a b h c) <;> cases decide (v = t) <;> rfl
/-- a hedge that is no bridge -/
theorem next_ok (hc : a h = c ∨ b h = c) (hG : ∀ k, k < n → S k = true → cn a b n S c (a k)) (hb : cn a b n (rm S h) c (oe a b h c)) : ∀ k, k < n → rm S h k = true → cn a b n (rm S h) (oe a b h c) (a k) := by
  intro k hk hs P hP
  have e1 := hb P hP
  rw [← e1]
  refine hG k hk (rm_t.mp hs).1 P (fun j hj hjs => ?_)
  by_cases e : j = h
  · subst e
    unfold oe at e1
    by_cases q : a j = c
    · rw [if_pos q] at e1; rw [q]; exact e1
    · rw [if_neg q] at e1; rw [hc.resolve_left q]; exact e1.symm
  · exact hP j hj (rm_t.mpr ⟨hjs, e⟩)
/-- the only hedge at c -/
theorem next_leaf (hn : h < n) (hd : a h ≠ b h) (hc : a h = c ∨ b h = c) (hG : ∀ k, k < n → S k = true → cn a b n S c (a k)) (ho : ∀ k, k < n → S k = true → (a k = c ∨ b k = c) → k = h) : ∀ k, k < n → rm S h k = true → cn a b n (rm S h) (oe a b h c) (a k) := by
  intro k hk hs P hP
  have hne := oe_ne hd hc
  have q := hG k hk (rm_t.mp hs).1 (fun x => if x = c then P (oe a b h c) else P x) (fun j hj hjs => by
    by_cases e : j = h
    · subst e
      have hne2 := hne
      unfold oe at hne2 ⊢
      by_cases q : a j = c
      · rw [if_pos q] at hne2
        rw [if_pos q, if_pos q, if_neg hne2]
      · rw [if_neg q] at hne2
        rw [if_neg q, if_neg q, if_pos (hc.resolve_left q)]
    · have nc : ¬ (a j = c ∨ b j = c) := fun z => e (ho j hj hjs z)
      rw [if_neg (fun z => nc (Or.inl z)), if_neg (fun z => nc (Or.inr z))]
      exact hP j hj (rm_t.mpr ⟨hjs, e⟩))
  rw [if_pos rfl] at q
  have nk : ¬ a k = c := fun z => (rm_t.mp hs).2 (ho k hk (rm_t.mp hs).1 (Or.inl z))
  rw [if_neg nk] at q
  exact q
/-- if h is a bridge and t hangs with its far end, it does so without another hedge at c -/
theorem far_side {g t : Nat} (hg : g < n) (hgS : S g = true) (hgh : g ≠ h) (hcg : a g = c ∨ b g = c) (hbr : ¬ cn a b n (rm S h) c w) (ht : cn a b n (rm S h) w t) : cn a b n (rm (rm S h) g) w t := by
  intro P hP
  have hc0 : pb (cn a b n (rm S h) w c) = false := by
    cases hb : pb (cn a b n (rm S h) w c) with
    | false => rfl
    | true => exact absurd (pb_t.mp hb).symm hbr
  have hgr : rm S h g = true := rm_t.mpr ⟨hgS, hgh⟩
  have hcl : ∀ k, k < n → rm S h k = true → pb (cn a b n (rm S h) w (a k)) = pb (cn a b n (rm S h) w (b k)) := fun k hk hs => pb_c ⟨fun z => z.trans (cn.edge hk hs), fun z => z.trans (cn.edge hk hs).symm⟩
  have q := ht (fun x => pb (cn a b n (rm S h) w x) && decide (P x = P w)) (fun k hk hs => by
    by_cases e : k = g
    · subst e
      have h1 := hcl k hk hs
      have h2 : pb (cn a b n (rm S h) w (a k)) = false ∧ pb (cn a b n (rm S h) w (b k)) = false := by
        rcases hcg with z | z
        · rw [z] at h1 ⊢; exact ⟨hc0, by rw [← h1]; exact hc0⟩
        · rw [z] at h1 ⊢; exact ⟨by rw [h1]; exact hc0, hc0⟩
      rw [h2.1, h2.2]; rfl
    · rw [hcl k hk hs, hP k hk (rm_t.mpr ⟨hs, e⟩)])
  have e1 : (pb (cn a b n (rm S h) w w) && decide (P w = P w)) = true := by
    rw [pb_t.mpr cn.refl, decide_eq_true rfl]; rfl
  rw [e1] at q
  exact (of_decide_eq_true (Bool.and_eq_true_iff.mp q.symm).2).symm
theorem fleury {N : Nat} (hN : ∀ k, k < n → S k = true → a k < N ∧ b k < N) (hcN : c < N) (hd : ∀ k, k < n → S k = true → a k ≠ b k) (hG : GE a b n S c) (hS : ∃ k, k < n ∧ S k = true) : ∃ h, h < n ∧ S h = true ∧ (a h = c ∨ b h = c) ∧ GE a b n (rm S h) (oe a b h c) := by
  obtain ⟨hG1, hG2⟩ := hG
  have one : ∃ h, h < n ∧ S h = true ∧ (a h = c ∨ b h = c) := by
    obtain ⟨k, hk, hs⟩ := hS
    refine Classical.byContradiction (fun hno => ?_)
    have q := hG1 k hk hs (fun x => decide (x = c)) (fun j hj hjs => by
      have nc : ¬ (a j = c ∨ b j = c) := fun z => hno ⟨j, hj, hjs, z⟩
      rw [decide_eq_false (fun z => nc (Or.inl z)), decide_eq_false (fun z => nc (Or.inr z))])
    rw [decide_eq_true rfl] at q
    exact hno ⟨k, hk, hs, Or.inl (of_decide_eq_true q.symm)⟩
  obtain ⟨h1, n1, s1, c1⟩ := one
  have fin : ∀ h, h < n → S h = true → (a h = c ∨ b h = c) → (∀ k, k < n → rm S h k = true → cn a b n (rm S h) (oe a b h c) (a k)) → ∃ h, h < n ∧ S h = true ∧ (a h = c ∨ b h = c) ∧ GE a b n (rm S h) (oe a b h c) := fun h q1 q2 q3 q4 => ⟨h, q1, q2, q3, q4, next_par q1 q2 (hd h q1 q2) q3 hG2⟩
  have hNr : ∀ h k, k < n → rm S h k = true → a k < N ∧ b k < N := fun h k q1 q2 => hN k q1 (rm_t.mp q2).1
  rcases hG2 with hp | ⟨t, ht, hp⟩
  · refine fin h1 n1 s1 c1 (next_ok c1 hG1 ?_)
    exact (odd_comp (hNr h1) (oe_lt (hN h1 n1 s1)) hcN (fun v => by rw [par_next n1 s1 c1, hp v]; cases decide (v = c) <;> cases decide (v = oe a b h1 c) <;> rfl)).symm
  · have htN : t < N := by
      refine Classical.byContradiction (fun q => ?_)
      have e := par_hi (v := t) hN (by omega)
      rw [hp t, decide_eq_false ht, decide_eq_true rfl] at e
      cases e
    have tow : ∀ h, h < n → S h = true → (a h = c ∨ b h = c) → cn a b n (rm S h) (oe a b h c) t := fun h q1 q2 q3 => odd_comp (hNr h) (oe_lt (hN h q1 q2)) htN (fun v => by
      rw [par_next q1 q2 q3, hp v]
      cases decide (v = c) <;> cases decide (v = oe a b h c) <;> cases decide (v = t) <;> rfl)
    by_cases hb : cn a b n (rm S h1) c (oe a b h1 c)
    · exact fin h1 n1 s1 c1 (next_ok c1 hG1 hb)
    · by_cases ho : ∀ k, k < n → S k = true → (a k = c ∨ b k = c) → k = h1
      · exact fin h1 n1 s1 c1 (next_leaf n1 (hd h1 n1 s1) c1 hG1 ho)
      · have ex : ∃ k, k < n ∧ S k = true ∧ (a k = c ∨ b k = c) ∧ k ≠ h1 := by
          refine Classical.byContradiction (fun hno => ho (fun k q1 q2 q3 => Classical.byContradiction (fun q4 => hno ⟨k, q1, q2, q3, q4⟩)))
        obtain ⟨h2, n2, s2, c2, ne⟩ := ex
        by_cases hb2 : cn a b n (rm S h2) c (oe a b h2 c)
        · exact fin h2 n2 s2 c2 (next_ok c2 hG1 hb2)
        · exfalso
          have f1 := far_side n2 s2 ne c2 hb (tow h1 n1 s1 c1)
          have f2 := far_side n1 s1 (fun e => ne e.symm) c1 hb2 (tow h2 n2 s2 c2)
          have sub1 : ∀ k, k < n → rm (rm S h1) h2 k = true → rm S h1 k = true := fun k _ q => (rm_t.mp q).1
          have sub2 : ∀ k, k < n → rm (rm S h2) h1 k = true → rm S h1 k = true := fun k _ q => rm_t.mpr ⟨(rm_t.mp (rm_t.mp q).1).1, (rm_t.mp q).2⟩
          have g1 := cn.mono sub1 f1
          have g2 := cn.mono sub2 f2
          have g3 : cn a b n (rm S h1) c (oe a b h2 c) := oe_cn n2 (rm_t.mpr ⟨s2, ne⟩) c2
          exact hb (g3.trans (g2.trans g1.symm))
end GR
