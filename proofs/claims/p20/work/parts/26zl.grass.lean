/-! THE LEAST GRASS between pairs, as both recursions have it: gr the grass of two corners, C the corners -/
def lwB (f : Nat → Bool) : Nat → Nat
  | 0 => 0
  | n + 1 => if f 0 = true then 0 else lwB (fun i => f (i + 1)) n + 1
theorem lwB_eq : ∀ {n : Nat} {f : Nat → Bool} {a : Nat}, a < n → f a = true → (∀ j, j < a → f j = false) → lwB f n = a
  | 0, _, _, h, _, _ => absurd h (Nat.not_lt_zero _)
  | n + 1, f, 0, _, ha, _ => by
    show (if f 0 = true then 0 else lwB (fun i => f (i + 1)) n + 1) = 0
    rw [if_pos ha]
  | n + 1, f, a + 1, h, ha, hl => by
    show (if f 0 = true then 0 else lwB (fun i => f (i + 1)) n + 1) = a + 1
    rw [if_neg (by rw [hl 0 (Nat.succ_pos a)]; decide), lwB_eq (n := n) (f := fun i => f (i + 1)) (a := a) (by omega) ha (fun j hj => hl (j + 1) (by omega))]
theorem lwB_lo : ∀ {n : Nat} {f : Nat → Bool}, (∃ i, i < n ∧ f i = true) → lwB f n < n ∧ f (lwB f n) = true ∧ ∀ j, j < lwB f n → f j = false
  | 0, _, h => by obtain ⟨i, hi, -⟩ := h; exact absurd hi (Nat.not_lt_zero _)
  | n + 1, f, h => by
    cases h0 : f 0 with
    | true =>
      have e : lwB f (n + 1) = 0 := by
        show (if f 0 = true then 0 else lwB (fun i => f (i + 1)) n + 1) = 0
        rw [if_pos h0]
      rw [e]
      exact ⟨Nat.succ_pos n, h0, fun j hj => absurd hj (Nat.not_lt_zero _)⟩
    | false =>
      have e : lwB f (n + 1) = lwB (fun i => f (i + 1)) n + 1 := by
        show (if f 0 = true then 0 else lwB (fun i => f (i + 1)) n + 1) = lwB (fun i => f (i + 1)) n + 1
        rw [if_neg (by rw [h0]; decide)]
      obtain ⟨i, hi, hf⟩ := h
      have hx : ∃ i, i < n ∧ (fun i => f (i + 1)) i = true := by
        cases i with
        | zero => rw [h0] at hf; cases hf
        | succ i => exact ⟨i, by omega, hf⟩
      obtain ⟨p1, p2, p3⟩ := lwB_lo (n := n) (f := fun i => f (i + 1)) hx
      rw [e]
      refine ⟨by omega, p2, fun j hj => ?_⟩
      cases j with
      | zero => exact h0
      | succ j => exact p3 j (by omega)
/-- the least f b of the b below n in S -/
def mnB (f : Nat → Int) (S : Nat → Bool) : Nat → Int
  | 0 => 65535
  | n + 1 => if S n = true then min (mnB f S n) (f n) else mnB f S n
theorem mnB_s {f : Nat → Int} {S : Nat → Bool} {n : Nat} (h : S n = true) : mnB f S (n + 1) = min (mnB f S n) (f n) := by
  show (if S n = true then min (mnB f S n) (f n) else mnB f S n) = _
  rw [if_pos h]
theorem mnB_n {f : Nat → Int} {S : Nat → Bool} {n : Nat} (h : S n = false) : mnB f S (n + 1) = mnB f S n := by
  show (if S n = true then min (mnB f S n) (f n) else mnB f S n) = _
  rw [if_neg (by rw [h]; decide)]
theorem mnB_cg {f g : Nat → Int} {S : Nat → Bool} : ∀ {n : Nat}, (∀ b, b < n → S b = true → f b = g b) → mnB f S n = mnB g S n
  | 0, _ => rfl
  | n + 1, h => by
    have e := mnB_cg (f := f) (g := g) (S := S) (n := n) (fun b hb hs => h b (by omega) hs)
    cases hS : S n with
    | true => rw [mnB_s hS, mnB_s hS, e, h n (by omega) hS]
    | false => rw [mnB_n hS, mnB_n hS, e]
theorem mnB_none {f : Nat → Int} {S : Nat → Bool} : ∀ {n : Nat}, (∀ b, b < n → S b = false) → mnB f S n = 65535
  | 0, _ => rfl
  | n + 1, h => by rw [mnB_n (h n (by omega)), mnB_none (fun b hb => h b (by omega))]
theorem mnB_top {f : Nat → Int} {S : Nat → Bool} : ∀ n : Nat, mnB f S n ≤ 65535
  | 0 => Int.le_refl _
  | n + 1 => by
    have := mnB_top (f := f) (S := S) n
    cases hS : S n with
    | true => rw [mnB_s hS]; omega
    | false => rw [mnB_n hS]; exact this
theorem mnB_le {f : Nat → Int} {S : Nat → Bool} {b : Nat} : ∀ {n : Nat}, b < n → S b = true → mnB f S n ≤ f b
  | 0, h, _ => absurd h (Nat.not_lt_zero _)
  | n + 1, h, hb => by
    by_cases q : b = n
    · subst q; rw [mnB_s hb]; omega
    · have := mnB_le (f := f) (S := S) (b := b) (n := n) (by omega) hb
      cases hS : S n with
      | true => rw [mnB_s hS]; omega
      | false => rw [mnB_n hS]; exact this
theorem mnB_bd {f : Nat → Int} {S : Nat → Bool} {K : Int} : ∀ {n : Nat}, (∀ b, b < n → S b = true → 65535 ≤ f b ∨ (0 ≤ f b ∧ f b ≤ K)) → mnB f S n = 65535 ∨ (0 ≤ mnB f S n ∧ mnB f S n ≤ K)
  | 0, _ => Or.inl rfl
  | n + 1, h => by
    have e := mnB_bd (f := f) (S := S) (K := K) (n := n) (fun b hb hs => h b (by omega) hs)
    have t := mnB_top (f := f) (S := S) n
    cases hS : S n with
    | true =>
      have := h n (by omega) hS
      rw [mnB_s hS]; omega
    | false => rw [mnB_n hS]; exact e
def GrF (gr : Nat → Nat → Int) (C : Nat) : Nat → Nat → Int32 → Int
  | 0, o, _ => if o = 0 then 0 else 65535
  | k + 1, o, X => if X = 0 then (if o = 0 then 0 else 65535) else min (if o = 0 then 65535 else GrF gr C k (o - 1) (gdel X (nI (lwB (bt X) 10)))) (mnB (fun b => gr (lwB (bt X) 10) b + GrF gr C k o (gdel (gdel X (nI (lwB (bt X) 10))) (nI b))) (bt (gdel X (nI (lwB (bt X) 10)))) C)
theorem GrF_s {gr : Nat → Nat → Int} {C k o : Nat} {X : Int32} (h : X ≠ 0) : GrF gr C (k + 1) o X = min (if o = 0 then 65535 else GrF gr C k (o - 1) (gdel X (nI (lwB (bt X) 10)))) (mnB (fun b => gr (lwB (bt X) 10) b + GrF gr C k o (gdel (gdel X (nI (lwB (bt X) 10))) (nI b))) (bt (gdel X (nI (lwB (bt X) 10)))) C) := by
  show (if X = 0 then (if o = 0 then (0 : Int) else 65535) else min (if o = 0 then 65535 else GrF gr C k (o - 1) (gdel X (nI (lwB (bt X) 10)))) (mnB (fun b => gr (lwB (bt X) 10) b + GrF gr C k o (gdel (gdel X (nI (lwB (bt X) 10))) (nI b))) (bt (gdel X (nI (lwB (bt X) 10)))) C)) = _
  rw [if_neg h]
theorem GrF_0 {gr : Nat → Nat → Int} {C o : Nat} : ∀ k : Nat, GrF gr C k o 0 = if o = 0 then 0 else 65535
  | 0 => rfl
  | k + 1 => by
    show (if (0 : Int32) = 0 then (if o = 0 then (0 : Int) else 65535) else _) = _
    rw [if_pos rfl]
/-- corners as bits -/
def cX (X : Int32) : Prop := 0 ≤ X.toInt ∧ X.toInt ≤ 1023
theorem cX_hi {X : Int32} (h : cX X) {i : Nat} (hi : 10 ≤ i) : bt X i = false := b_hi (k := 10) h.1 (by
  have h2 := h.2
  have e : ((2 ^ 10 : Nat) : Int) = 1024 := by decide
  omega) hi
theorem cX_ex {X : Int32} (h : cX X) (hn : X ≠ 0) : ∃ i, i < 10 ∧ bt X i = true := by
  refine Classical.byContradiction (fun z => hn (b_ext (fun i _ => ?_)))
  rw [b_0]
  cases hb : bt X i with
  | false => rfl
  | true =>
    rcases Nat.lt_or_ge i 10 with q | q
    · exact absurd ⟨i, q, hb⟩ z
    · rw [cX_hi h q] at hb; cases hb
theorem cX_del {X : Int32} (h : cX X) (b : Int32) : cX (gdel X b) := by
  have q := a_andl (x := X) (y := ((1 : Int32) <<< (b &&& 31)) ^^^ (-1 : Int32)) h.1
  exact ⟨q.1, Int.le_trans q.2 h.2⟩
theorem nI10 {b : Nat} (h : b < 10) : 0 ≤ (nI b).toInt ∧ (nI b).toInt < 10 ∧ (nI b).toNatClampNeg = b := by
  have e : (nI b).toInt = (b : Int) := nI_toInt (by omega)
  have := a_tn (x := nI b) (by omega)
  exact ⟨by omega, by omega, by omega⟩
theorem cX_pc {X : Int32} {b : Nat} (hb : b < 10) (h : bt X b = true) : pc (gdel X (nI b)) + 1 = pc X := by
  obtain ⟨h0, h1, e⟩ := nI10 hb
  exact pc_del (x := X) (b := nI b) h0 h1 (by rw [e]; exact h)
theorem cX_bt {X : Int32} {b i : Nat} (hb : b < 10) (hi : i < 32) : bt (gdel X (nI b)) i = (bt X i && !decide (i = b)) := by
  obtain ⟨h0, h1, e⟩ := nI10 hb
  have := b_del (x := X) (b := nI b) h0 (by omega) hi
  rw [e] at this
  exact this
theorem GrF_fu {gr : Nat → Nat → Int} {C : Nat} (hC : C ≤ 10) : ∀ (k o : Nat) (X : Int32), cX X → pc X ≤ k → GrF gr C (k + 1) o X = GrF gr C k o X := by
  intro k
  induction k with
  | zero =>
    intro o X hX hp
    by_cases q : X = 0
    · subst q; rw [GrF_0, GrF_0]
    · obtain ⟨i, hi, hb⟩ := cX_ex hX q
      have := pc_pos hi hb
      omega
  | succ k ih =>
    intro o X hX hp
    by_cases q : X = 0
    · subst q; rw [GrF_0, GrF_0]
    · obtain ⟨la, lb, lc⟩ := lwB_lo (cX_ex hX q)
      have hpR := cX_pc la lb
      rw [GrF_s q, GrF_s q, ih (o - 1) (gdel X (nI (lwB (bt X) 10))) (cX_del hX _) (by omega)]
      refine congrArg (min _) (mnB_cg (fun b hb hs => ?_))
      have hpb := cX_pc (X := gdel X (nI (lwB (bt X) 10))) (b := b) (by omega) hs
      show gr (lwB (bt X) 10) b + GrF gr C (k + 1) o (gdel (gdel X (nI (lwB (bt X) 10))) (nI b)) = gr (lwB (bt X) 10) b + GrF gr C k o (gdel (gdel X (nI (lwB (bt X) 10))) (nI b))
      rw [ih o (gdel (gdel X (nI (lwB (bt X) 10))) (nI b)) (cX_del (cX_del hX _) _) (by omega)]
def Gr (gr : Nat → Nat → Int) (C o : Nat) (X : Int32) : Int := GrF gr C 10 o X
theorem Gr_0 {gr : Nat → Nat → Int} {C o : Nat} : Gr gr C o 0 = if o = 0 then 0 else 65535 := GrF_0 10
theorem Gr_s {gr : Nat → Nat → Int} {C o : Nat} {X : Int32} (hC : C ≤ 10) (hX : cX X) (h : X ≠ 0) : Gr gr C o X = min (if o = 0 then 65535 else Gr gr C (o - 1) (gdel X (nI (lwB (bt X) 10)))) (mnB (fun b => gr (lwB (bt X) 10) b + Gr gr C o (gdel (gdel X (nI (lwB (bt X) 10))) (nI b))) (bt (gdel X (nI (lwB (bt X) 10)))) C) := by
  have e := GrF_fu (gr := gr) hC 10 o X hX (pc_le X)
  show GrF gr C 10 o X = _
  rw [← e]
  exact GrF_s h
theorem GrF_bd {gr : Nat → Nat → Int} {C : Nat} (hC : C ≤ 10) (hg : ∀ a b, 0 ≤ gr a b ∧ gr a b ≤ 36) : ∀ (k o : Nat) (X : Int32), cX X → pc X ≤ k → GrF gr C k o X = 65535 ∨ (0 ≤ GrF gr C k o X ∧ GrF gr C k o X ≤ 36 * ((pc X : Nat) : Int)) := by
  intro k
  induction k with
  | zero =>
    intro o X hX hp
    show (if o = 0 then (0 : Int) else 65535) = 65535 ∨ (0 ≤ (if o = 0 then (0 : Int) else 65535) ∧ (if o = 0 then (0 : Int) else 65535) ≤ _)
    by_cases q : o = 0
    · rw [if_pos q]; right; omega
    · rw [if_neg q]; left; rfl
  | succ k ih =>
    intro o X hX hp
    have hp10 := pc_le X
    by_cases q : X = 0
    · subst q
      rw [GrF_0]
      by_cases q : o = 0
      · rw [if_pos q]; right; omega
      · rw [if_neg q]; left; rfl
    · obtain ⟨la, lb, lc⟩ := lwB_lo (cX_ex hX q)
      have hpR := cX_pc la lb
      rw [GrF_s q]
      have h1 := ih (o - 1) _ (cX_del hX (nI (lwB (bt X) 10))) (by omega)
      have h2 : mnB (fun b => gr (lwB (bt X) 10) b + GrF gr C k o (gdel (gdel X (nI (lwB (bt X) 10))) (nI b))) (bt (gdel X (nI (lwB (bt X) 10)))) C = 65535 ∨ (0 ≤ mnB (fun b => gr (lwB (bt X) 10) b + GrF gr C k o (gdel (gdel X (nI (lwB (bt X) 10))) (nI b))) (bt (gdel X (nI (lwB (bt X) 10)))) C ∧ mnB (fun b => gr (lwB (bt X) 10) b + GrF gr C k o (gdel (gdel X (nI (lwB (bt X) 10))) (nI b))) (bt (gdel X (nI (lwB (bt X) 10)))) C ≤ 36 * ((pc X : Nat) : Int)) := by
        refine mnB_bd (fun b hb hs => ?_)
        have hpb := cX_pc (X := gdel X (nI (lwB (bt X) 10))) (b := b) (by omega) hs
        have h3 := ih o _ (cX_del (cX_del hX (nI (lwB (bt X) 10))) (nI b)) (by omega)
        have h4 := hg (lwB (bt X) 10) b
        show 65535 ≤ gr (lwB (bt X) 10) b + GrF gr C k o (gdel (gdel X (nI (lwB (bt X) 10))) (nI b)) ∨ (0 ≤ gr (lwB (bt X) 10) b + GrF gr C k o (gdel (gdel X (nI (lwB (bt X) 10))) (nI b)) ∧ gr (lwB (bt X) 10) b + GrF gr C k o (gdel (gdel X (nI (lwB (bt X) 10))) (nI b)) ≤ _)
        omega
      generalize mnB (fun b => gr (lwB (bt X) 10) b + GrF gr C k o (gdel (gdel X (nI (lwB (bt X) 10))) (nI b))) (bt (gdel X (nI (lwB (bt X) 10)))) C = M at h2 ⊢
      by_cases q2 : o = 0
      · rw [if_pos q2]; omega
      · rw [if_neg q2]; omega
theorem Gr_bd {gr : Nat → Nat → Int} {C o : Nat} {X : Int32} (hC : C ≤ 10) (hg : ∀ a b, 0 ≤ gr a b ∧ gr a b ≤ 36) (hX : cX X) : Gr gr C o X = 65535 ∨ (0 ≤ Gr gr C o X ∧ Gr gr C o X ≤ 36 * ((pc X : Nat) : Int)) := GrF_bd hC hg 10 o X hX (pc_le X)
/-- so many corners can be put in pairs -/
theorem Gr_fin {gr : Nat → Nat → Int} {C : Nat} (hC : C ≤ 10) (hg : ∀ a b, 0 ≤ gr a b ∧ gr a b ≤ 36) : ∀ (k o : Nat) (X : Int32), cX X → (∀ i, bt X i = true → i < C) → pc X ≤ k → (∃ q, pc X = o + 2 * q) → Gr gr C o X < 65535 := by
  intro k
  induction k with
  | zero =>
    intro o X hX hs hp hq
    obtain ⟨q, hq⟩ := hq
    by_cases q : X = 0
    · subst q; rw [Gr_0, if_pos (by omega)]; decide
    · obtain ⟨i, hi, hb⟩ := cX_ex hX q
      have := pc_pos hi hb
      omega
  | succ k ih =>
    intro o X hX hs hp hq
    obtain ⟨q, hq⟩ := hq
    have hp10 := pc_le X
    by_cases q0 : X = 0
    · subst q0
      have e : pc (0 : Int32) = 0 := by decide
      rw [Gr_0, if_pos (by omega)]; decide
    · obtain ⟨la, lb, lc⟩ := lwB_lo (cX_ex hX q0)
      have hpR := cX_pc la lb
      have hsR : ∀ i, bt (gdel X (nI (lwB (bt X) 10))) i = true → bt X i = true := fun i hi => by
        rcases Nat.lt_or_ge i 32 with z | z
        · rw [cX_bt la z] at hi; exact (Bool.and_eq_true_iff.mp hi).1
        · rw [b_big z] at hi; cases hi
      rw [Gr_s hC hX q0]
      by_cases qo : o = 0
      · have hne : gdel X (nI (lwB (bt X) 10)) ≠ 0 := fun z => by
          rw [z, show pc (0 : Int32) = 0 by decide] at hpR
          omega
        obtain ⟨b, hb, hbb⟩ := cX_ex (cX_del hX (nI (lwB (bt X) 10))) hne
        have hbC := hs b (hsR b hbb)
        have hpb := cX_pc hb hbb
        have l1 := mnB_le (f := fun b => gr (lwB (bt X) 10) b + Gr gr C o (gdel (gdel X (nI (lwB (bt X) 10))) (nI b))) hbC hbb
        have l2 := ih o _ (cX_del (cX_del hX (nI (lwB (bt X) 10))) (nI b)) (fun i hi => by
          rcases Nat.lt_or_ge i 32 with z | z
          · rw [cX_bt hb z] at hi; exact hs i (hsR i (Bool.and_eq_true_iff.mp hi).1)
          · rw [b_big z] at hi; cases hi) (by omega) ⟨q - 1, by omega⟩
        have l3 := Gr_bd (gr := gr) (o := o) hC hg (cX_del (cX_del hX (nI (lwB (bt X) 10))) (nI b))
        have l4 := hg (lwB (bt X) 10) b
        have l5 : mnB (fun b => gr (lwB (bt X) 10) b + Gr gr C o (gdel (gdel X (nI (lwB (bt X) 10))) (nI b))) (bt (gdel X (nI (lwB (bt X) 10)))) C ≤ gr (lwB (bt X) 10) b + Gr gr C o (gdel (gdel X (nI (lwB (bt X) 10))) (nI b)) := l1
        rw [if_pos qo]
        omega
      · have l2 := ih (o - 1) _ (cX_del hX (nI (lwB (bt X) 10))) (fun i hi => hs i (hsR i hi)) (by omega) ⟨q, by omega⟩
        rw [if_neg qo]
        omega
