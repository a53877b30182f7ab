/-! SHORTEST WAYS: the loop over corners in between, on numbers alone -/
def HYf (a b : Nat → Nat) (n C : Nat) (S : Nat → Bool) (w1 w2 : Nat → Int) : Prop := ∀ h, h < n → S h = true → a h < C ∧ b h < C ∧ a h ≠ b h ∧ (1 ≤ w1 h ∧ w1 h ≤ 29) ∧ (1 ≤ w2 h ∧ w2 h ≤ 29)
def dI (a b : Nat → Nat) (S : Nat → Bool) (w1 w2 : Nat → Int) : Nat → Nat → Nat → Int
  | 0, x, y => if x = y then 0 else 1000000
  | h + 1, x, y => if S h = true then (if x = a h ∧ y = b h then min (dI a b S w1 w2 h x y) (w1 h) else if x = b h ∧ y = a h then min (dI a b S w1 w2 h x y) (w2 h) else dI a b S w1 w2 h x y) else dI a b S w1 w2 h x y
/-- the four ways of a step -/
theorem dI_s {a b : Nat → Nat} {S : Nat → Bool} {w1 w2 : Nat → Int} {h x y : Nat} {P : Int → Prop} (p1 : S h = true → x = a h → y = b h → P (min (dI a b S w1 w2 h x y) (w1 h))) (p2 : S h = true → x = b h → y = a h → P (min (dI a b S w1 w2 h x y) (w2 h))) (p3 : P (dI a b S w1 w2 h x y)) : P (dI a b S w1 w2 (h + 1) x y) := by
  show P (if S h = true then (if x = a h ∧ y = b h then min (dI a b S w1 w2 h x y) (w1 h) else if x = b h ∧ y = a h then min (dI a b S w1 w2 h x y) (w2 h) else dI a b S w1 w2 h x y) else dI a b S w1 w2 h x y)
  by_cases q : S h = true
  · rw [if_pos q]
    by_cases q1 : x = a h ∧ y = b h
    · rw [if_pos q1]; exact p1 q q1.1 q1.2
    · rw [if_neg q1]
      by_cases q2 : x = b h ∧ y = a h
      · rw [if_pos q2]; exact p2 q q2.1 q2.2
      · rw [if_neg q2]; exact p3
  · rw [if_neg q]; exact p3
theorem dI_b {a b : Nat → Nat} {n C : Nat} {S : Nat → Bool} {w1 w2 : Nat → Int} (H : HYf a b n C S w1 w2) : ∀ (h x y : Nat), h ≤ n → (0 ≤ dI a b S w1 w2 h x y ∧ dI a b S w1 w2 h x y ≤ 1000000) ∧ (x ≠ y → 1 ≤ dI a b S w1 w2 h x y) ∧ (x = y → dI a b S w1 w2 h x y = 0) := by
  intro h
  induction h with
  | zero =>
    intro x y _
    show (0 ≤ (if x = y then (0 : Int) else 1000000) ∧ (if x = y then (0 : Int) else 1000000) ≤ 1000000) ∧ (x ≠ y → 1 ≤ (if x = y then (0 : Int) else 1000000)) ∧ (x = y → (if x = y then (0 : Int) else 1000000) = 0)
    by_cases q : x = y
    · rw [if_pos q]; exact ⟨by omega, fun z => absurd q z, fun _ => rfl⟩
    · rw [if_neg q]; exact ⟨by omega, fun _ => by omega, fun z => absurd z q⟩
  | succ h ih =>
    intro x y hn
    obtain ⟨i1, i2, i3⟩ := ih x y (by omega)
    refine dI_s (P := fun v => (0 ≤ v ∧ v ≤ 1000000) ∧ (x ≠ y → 1 ≤ v) ∧ (x = y → v = 0)) (fun q e1 e2 => ?_) (fun q e1 e2 => ?_) ⟨i1, i2, i3⟩
    · obtain ⟨c1, c2, c3, c4, c5⟩ := H h (by omega) q
      have hne : x ≠ y := fun z => c3 (by rw [← e1, ← e2]; exact z)
      have := i2 hne
      exact ⟨by omega, fun _ => by omega, fun z => absurd z hne⟩
    · obtain ⟨c1, c2, c3, c4, c5⟩ := H h (by omega) q
      have hne : x ≠ y := fun z => c3 (by rw [← e1, ← e2]; exact z.symm)
      have := i2 hne
      exact ⟨by omega, fun _ => by omega, fun z => absurd z hne⟩
theorem dI_m {a b : Nat → Nat} {S : Nat → Bool} {w1 w2 : Nat → Int} (h x y : Nat) : dI a b S w1 w2 (h + 1) x y ≤ dI a b S w1 w2 h x y :=
  dI_s (P := fun v => v ≤ dI a b S w1 w2 h x y) (fun _ _ _ => by omega) (fun _ _ _ => by omega) (Int.le_refl _)
theorem dI_e {a b : Nat → Nat} {S : Nat → Bool} {w1 w2 : Nat → Int} {k : Nat} (hk : S k = true) (hab : a k ≠ b k) : ∀ h : Nat, k < h → dI a b S w1 w2 h (a k) (b k) ≤ w1 k ∧ dI a b S w1 w2 h (b k) (a k) ≤ w2 k := by
  intro h
  induction h with
  | zero => intro z; exact absurd z (Nat.not_lt_zero _)
  | succ h ih =>
    intro z
    by_cases q : k = h
    · subst q
      constructor
      · show (if S k = true then (if a k = a k ∧ b k = b k then min (dI a b S w1 w2 k (a k) (b k)) (w1 k) else _) else _) ≤ w1 k
        rw [if_pos hk, if_pos ⟨rfl, rfl⟩]; omega
      · show (if S k = true then (if b k = a k ∧ a k = b k then _ else if b k = b k ∧ a k = a k then min (dI a b S w1 w2 k (b k) (a k)) (w2 k) else _) else _) ≤ w2 k
        rw [if_pos hk, if_neg (fun e => hab e.2), if_pos ⟨rfl, rfl⟩]; omega
    · obtain ⟨i1, i2⟩ := ih (by omega)
      exact ⟨Int.le_trans (dI_m h _ _) i1, Int.le_trans (dI_m h _ _) i2⟩
theorem dI_p {a b : Nat → Nat} {n : Nat} {S : Nat → Bool} {w1 w2 : Nat → Int} {x y : Nat} (hne : x ≠ y) : ∀ h : Nat, h ≤ n → dI a b S w1 w2 h x y < 1000000 → ∃ k, k < n ∧ S k = true ∧ ((x = a k ∧ y = b k) ∨ (x = b k ∧ y = a k)) := by
  intro h
  induction h with
  | zero =>
    intro _ z
    have e : dI a b S w1 w2 0 x y = 1000000 := by
      show (if x = y then (0 : Int) else 1000000) = 1000000
      rw [if_neg hne]
    omega
  | succ h ih =>
    intro hn
    exact dI_s (P := fun v => v < 1000000 → ∃ k, k < n ∧ S k = true ∧ ((x = a k ∧ y = b k) ∨ (x = b k ∧ y = a k))) (fun q e1 e2 _ => ⟨h, by omega, q, Or.inl ⟨e1, e2⟩⟩) (fun q e1 e2 _ => ⟨h, by omega, q, Or.inr ⟨e1, e2⟩⟩) (ih (by omega))
theorem dI_c {a b : Nat → Nat} {n : Nat} {S : Nat → Bool} {w1 w2 : Nat → Int} {x y h : Nat} (hh : h ≤ n) (z : dI a b S w1 w2 h x y < 1000000) : cn a b n S x y := by
  by_cases q : x = y
  · subst q; exact cn.refl
  · obtain ⟨k, hk, hs, e⟩ := dI_p (n := n) q h hh z
    rcases e with ⟨e1, e2⟩ | ⟨e1, e2⟩
    · subst e1; subst e2; exact cn.edge hk hs
    · subst e1; subst e2; exact (cn.edge hk hs).symm
def fL (d : Nat → Nat → Int) : Nat → Nat → Nat → Int
  | 0, x, y => d x y
  | k + 1, x, y => min (fL d k x y) (fL d k x k + fL d k k y)
theorem fL_s {d : Nat → Nat → Int} {k x y : Nat} : fL d (k + 1) x y = min (fL d k x y) (fL d k x k + fL d k k y) := rfl
theorem fL_b {d : Nat → Nat → Int} (hd : ∀ x y, (0 ≤ d x y ∧ d x y ≤ 1000000) ∧ (x ≠ y → 1 ≤ d x y) ∧ (x = y → d x y = 0)) : ∀ (k x y : Nat), (0 ≤ fL d k x y ∧ fL d k x y ≤ 1000000) ∧ (x ≠ y → 1 ≤ fL d k x y) ∧ (x = y → fL d k x y = 0) := by
  intro k
  induction k with
  | zero => exact hd
  | succ k ih =>
    intro x y
    obtain ⟨p1, p2, p3⟩ := ih x y
    obtain ⟨q1, q2, q3⟩ := ih x k
    obtain ⟨r1, r2, r3⟩ := ih k y
    rw [fL_s]
    refine ⟨by omega, fun z => ?_, fun z => ?_⟩
    · have := p2 z
      by_cases e : x = k
      · have := r2 (fun w => z (e.trans w))
        omega
      · have := q2 e
        omega
    · have := p3 z
      omega
theorem fL_m {d : Nat → Nat → Int} {x y : Nat} : ∀ k : Nat, fL d k x y ≤ d x y
  | 0 => Int.le_refl _
  | k + 1 => by
    have := fL_m (d := d) (x := x) (y := y) k
    rw [fL_s]; omega
theorem fL_t {d : Nat → Nat → Int} (hd : ∀ x y, (0 ≤ d x y ∧ d x y ≤ 1000000) ∧ (x ≠ y → 1 ≤ d x y) ∧ (x = y → d x y = 0)) : ∀ (k i x y : Nat), i < k → fL d k x y ≤ fL d k x i + fL d k i y := by
  intro k
  induction k with
  | zero => intro i x y h; exact absurd h (Nat.not_lt_zero _)
  | succ k ih =>
    intro i x y h
    have bk := fL_b hd k
    by_cases q : i = k
    · subst q
      have e1 := (bk i i).2.2 rfl
      rw [fL_s, fL_s, fL_s, e1]
      omega
    · have t1 := ih i x y (by omega)
      have t2 := ih i k y (by omega)
      have t3 := ih i x k (by omega)
      have b1 := (bk i k).1
      have b2 := (bk k i).1
      rw [fL_s, fL_s, fL_s]
      omega
theorem fL_c {d : Nat → Nat → Int} {R : Nat → Nat → Prop} (hd : ∀ x y, (0 ≤ d x y ∧ d x y ≤ 1000000) ∧ (x ≠ y → 1 ≤ d x y) ∧ (x = y → d x y = 0)) (hR : ∀ x y, d x y < 1000000 → R x y) (hT : ∀ x y z, R x y → R y z → R x z) : ∀ (k x y : Nat), fL d k x y < 1000000 → R x y := by
  intro k
  induction k with
  | zero => exact hR
  | succ k ih =>
    intro x y h
    rw [fL_s] at h
    have b1 := (fL_b hd k x k).1
    have b2 := (fL_b hd k k y).1
    by_cases q : fL d k x y < 1000000
    · exact ih x y q
    · exact hT _ _ _ (ih x k (by omega)) (ih k y (by omega))
theorem fL_p {d : Nat → Nat → Int} {J : Nat → Nat → Prop} (hd : ∀ x y, (0 ≤ d x y ∧ d x y ≤ 1000000) ∧ (x ≠ y → 1 ≤ d x y) ∧ (x = y → d x y = 0)) (hJ : ∀ x y, x ≠ y → d x y < 1000000 → J x y) : ∀ (k x y : Nat), x ≠ y → fL d k x y < 1000000 → ∃ z, J z y ∧ fL d k x z < fL d k x y := by
  intro k
  induction k with
  | zero =>
    intro x y hne h
    refine ⟨x, hJ x y hne h, ?_⟩
    show d x x < d x y
    have := (hd x x).2.2 rfl
    have := (hd x y).2.1 hne
    omega
  | succ k ih =>
    intro x y hne h
    have bk := fL_b hd k
    rw [fL_s] at h
    by_cases q : fL d k x y ≤ fL d k x k + fL d k k y
    · obtain ⟨z, hz, hl⟩ := ih x y hne (by omega)
      refine ⟨z, hz, ?_⟩
      rw [fL_s, fL_s]; omega
    · have b1 := (bk x k).1
      have b3 := (bk x y).1
      have hky : k ≠ y := fun e => by
        subst e
        have := (bk k k).2.2 rfl
        omega
      obtain ⟨z, hz, hl⟩ := ih k y hky (by omega)
      refine ⟨z, hz, ?_⟩
      rw [fL_s, fL_s]; omega
/-- the ways of a land -/
def dF (a b : Nat → Nat) (n C : Nat) (S : Nat → Bool) (w1 w2 : Nat → Int) : Nat → Nat → Int := fL (dI a b S w1 w2 n) C
theorem dF_b {a b : Nat → Nat} {n C : Nat} {S : Nat → Bool} {w1 w2 : Nat → Int} (H : HYf a b n C S w1 w2) (x y : Nat) : (0 ≤ dF a b n C S w1 w2 x y ∧ dF a b n C S w1 w2 x y ≤ 1000000) ∧ (x ≠ y → 1 ≤ dF a b n C S w1 w2 x y) ∧ (x = y → dF a b n C S w1 w2 x y = 0) := fL_b (fun x y => dI_b H n x y (Nat.le_refl _)) C x y
theorem dF_t {a b : Nat → Nat} {n C : Nat} {S : Nat → Bool} {w1 w2 : Nat → Int} (H : HYf a b n C S w1 w2) (x : Nat) {i : Nat} (y : Nat) (hi : i < C) : dF a b n C S w1 w2 x y ≤ dF a b n C S w1 w2 x i + dF a b n C S w1 w2 i y := fL_t (fun x y => dI_b H n x y (Nat.le_refl _)) C i x y hi
theorem dF_e {a b : Nat → Nat} {n C : Nat} {S : Nat → Bool} {w1 w2 : Nat → Int} (H : HYf a b n C S w1 w2) {k : Nat} (hk : k < n) (hs : S k = true) : dF a b n C S w1 w2 (a k) (b k) ≤ 29 ∧ dF a b n C S w1 w2 (b k) (a k) ≤ 29 := by
  obtain ⟨c1, c2, c3, c4, c5⟩ := H k hk hs
  obtain ⟨e1, e2⟩ := dI_e (w1 := w1) (w2 := w2) hs c3 n hk
  have m1 := fL_m (d := dI a b S w1 w2 n) (x := a k) (y := b k) C
  have m2 := fL_m (d := dI a b S w1 w2 n) (x := b k) (y := a k) C
  unfold dF
  omega
theorem dF_c {a b : Nat → Nat} {n C : Nat} {S : Nat → Bool} {w1 w2 : Nat → Int} (H : HYf a b n C S w1 w2) {x y : Nat} (h : dF a b n C S w1 w2 x y < 1000000) : cn a b n S x y :=
  fL_c (R := cn a b n S) (fun x y => dI_b H n x y (Nat.le_refl _)) (fun _ _ z => dI_c (Nat.le_refl _) z) (fun _ _ _ p q => p.trans q) C x y h
theorem dF_p {a b : Nat → Nat} {n C : Nat} {S : Nat → Bool} {w1 w2 : Nat → Int} (H : HYf a b n C S w1 w2) {x y : Nat} (hne : x ≠ y) (h : dF a b n C S w1 w2 x y < 1000000) : ∃ z, (∃ k, k < n ∧ S k = true ∧ ((z = a k ∧ y = b k) ∨ (z = b k ∧ y = a k))) ∧ dF a b n C S w1 w2 x z < dF a b n C S w1 w2 x y :=
  fL_p (J := fun z y => ∃ k, k < n ∧ S k = true ∧ ((z = a k ∧ y = b k) ∨ (z = b k ∧ y = a k))) (fun x y => dI_b H n x y (Nat.le_refl _)) (fun _ _ q z => dI_p q n (Nat.le_refl _) z) C x y hne h
/-- from x, corner by corner further out -/
theorem dF_grow {a b : Nat → Nat} {n C : Nat} {S : Nat → Bool} {w1 w2 : Nat → Int} (H : HYf a b n C S w1 w2) {x : Nat} (hx : x < C) : ∀ j : Nat, (∃ i, i < j ∧ ∀ h, h < n → S h = true → decide (dF a b n C S w1 w2 x (a h) ≤ 29 * (i : Int)) = decide (dF a b n C S w1 w2 x (b h) ≤ 29 * (i : Int))) ∨ j + 1 ≤ cnt (fun y => decide (dF a b n C S w1 w2 x y ≤ 29 * (j : Int))) C := by
  intro j
  induction j with
  | zero =>
    right
    have e0 := (dF_b H x x).2.2 rfl
    have := cnt_lt (p := fun _ => false) (q := fun y => decide (dF a b n C S w1 w2 x y ≤ 29 * ((0 : Nat) : Int))) (n := C) x (fun _ _ h => by cases h) hx rfl (decide_eq_true (by omega))
    omega
  | succ j ih =>
    rcases ih with ⟨i, hi, h⟩ | ih
    · exact Or.inl ⟨i, by omega, h⟩
    · by_cases q : ∀ h, h < n → S h = true → decide (dF a b n C S w1 w2 x (a h) ≤ 29 * (j : Int)) = decide (dF a b n C S w1 w2 x (b h) ≤ 29 * (j : Int))
      · exact Or.inl ⟨j, by omega, q⟩
      · right
        have hjj : ((j + 1 : Nat) : Int) = (j : Int) + 1 := by omega
        have key : ∃ y, y < C ∧ ¬ dF a b n C S w1 w2 x y ≤ 29 * (j : Int) ∧ dF a b n C S w1 w2 x y ≤ 29 * ((j : Int) + 1) := by
          refine Classical.byContradiction (fun z => q (fun h hh hs => ?_))
          obtain ⟨c1, c2, c3, -⟩ := H h hh hs
          obtain ⟨e1, e2⟩ := dF_e H hh hs
          have t1 := dF_t H x (i := a h) (b h) c1
          have t2 := dF_t H x (i := b h) (a h) c2
          refine decide_eq_decide.mpr ⟨fun u => ?_, fun u => ?_⟩
          · refine Classical.byContradiction (fun v => z ⟨b h, c2, v, by omega⟩)
          · refine Classical.byContradiction (fun v => z ⟨a h, c1, v, by omega⟩)
        obtain ⟨y, hy, y1, y2⟩ := key
        have := cnt_lt (p := fun y => decide (dF a b n C S w1 w2 x y ≤ 29 * (j : Int))) (q := fun y => decide (dF a b n C S w1 w2 x y ≤ 29 * ((j + 1 : Nat) : Int))) (n := C) y (fun k _ hk => decide_eq_true (by have := of_decide_eq_true hk; omega)) hy (decide_eq_false y1) (decide_eq_true (by omega))
        omega
theorem dF_fin {a b : Nat → Nat} {n C : Nat} {S : Nat → Bool} {w1 w2 : Nat → Int} (H : HYf a b n C S w1 w2) (hC : C ≤ 10) {x y : Nat} (hx : x < C) (h : dF a b n C S w1 w2 x y < 1000000) : dF a b n C S w1 w2 x y ≤ 290 := by
  rcases dF_grow H hx C with ⟨i, hi, hcl⟩ | q
  · have e0 := (dF_b H x x).2.2 rfl
    have e := dF_c H h (fun z => decide (dF a b n C S w1 w2 x z ≤ 29 * (i : Int))) hcl
    have e2 : decide (dF a b n C S w1 w2 x x ≤ 29 * (i : Int)) = true := decide_eq_true (by omega)
    have e3 : decide (dF a b n C S w1 w2 x x ≤ 29 * (i : Int)) = decide (dF a b n C S w1 w2 x y ≤ 29 * (i : Int)) := e
    rw [e2] at e3
    have := of_decide_eq_true e3.symm
    omega
  · have := cnt_le (fun y => decide (dF a b n C S w1 w2 x y ≤ 29 * (C : Int))) C
    omega
theorem dF_iff {a b : Nat → Nat} {n C : Nat} {S : Nat → Bool} {w1 w2 : Nat → Int} (H : HYf a b n C S w1 w2) (hC : C ≤ 10) {x y : Nat} (hx : x < C) : dF a b n C S w1 w2 x y < 65535 ↔ cn a b n S x y := by
  constructor
  · intro h; exact dF_c H (by omega)
  · intro h
    have e0 := (dF_b H x x).2.2 rfl
    have cl : ∀ k, k < n → S k = true → decide (dF a b n C S w1 w2 x (a k) < 65535) = decide (dF a b n C S w1 w2 x (b k) < 65535) := fun k hk hs => by
      obtain ⟨c1, c2, c3, -⟩ := H k hk hs
      obtain ⟨e1, e2⟩ := dF_e H hk hs
      have t1 := dF_t H x (i := a k) (b k) c1
      have t2 := dF_t H x (i := b k) (a k) c2
      refine decide_eq_decide.mpr ⟨fun u => ?_, fun u => ?_⟩
      · have := dF_fin H hC hx (y := a k) (by omega); omega
      · have := dF_fin H hC hx (y := b k) (by omega); omega
    have e := h (fun z => decide (dF a b n C S w1 w2 x z < 65535)) cl
    have e2 : decide (dF a b n C S w1 w2 x x < 65535) = true := decide_eq_true (by omega)
    have e3 : decide (dF a b n C S w1 w2 x x < 65535) = decide (dF a b n C S w1 w2 x y < 65535) := e
    rw [e2] at e3
    exact of_decide_eq_true e3.symm
/-- so many are met by so many -/
theorem cnt_cover {S : Nat → Bool} {f : Nat → Nat} {C : Nat} : ∀ {n : Nat} {T : Nat → Bool}, (∀ y, y < C → T y = true → ∃ h, h < n ∧ S h = true ∧ f h = y) → cnt T C ≤ cnt S n
  | 0, T, h => by
    have : cnt T C = 0 := by
      have : ∀ w, w < C → T w = false := fun w hw => by
        cases q : T w with
        | false => rfl
        | true => obtain ⟨k, hk, -⟩ := h w hw q; exact absurd hk (Nat.not_lt_zero _)
      have e := cnt_cong (p := T) (q := fun _ => false) (n := C) this
      have e2 : ∀ N : Nat, cnt (fun _ => false) N = 0 := fun N => by
        induction N with
        | zero => rfl
        | succ N ih => show cnt (fun _ => false) N + (if false = true then 1 else 0) = 0; rw [ih]; rfl
      rw [e, e2]
    omega
  | n + 1, T, h => by
    have e1 : cnt S (n + 1) = cnt S n + (if S n = true then 1 else 0) := rfl
    by_cases q : S n = true ∧ f n < C ∧ T (f n) = true
    · have hd := cnt_del (p := T) (q := fun y => T y && !decide (y = f n)) (n := C) (f n) q.2.1 q.2.2 (fun k _ => rfl)
      have := cnt_cover (S := S) (f := f) (C := C) (n := n) (T := fun y => T y && !decide (y = f n)) (fun y hy ht => by
        obtain ⟨p1, p2⟩ := Bool.and_eq_true_iff.mp ht
        obtain ⟨k, hk, hs, hf⟩ := h y hy p1
        refine ⟨k, ?_, hs, hf⟩
        by_cases e : k = n
        · subst e; rw [decide_eq_true hf.symm] at p2; cases p2
        · omega)
      rw [e1, if_pos q.1]
      omega
    · have := cnt_cover (S := S) (f := f) (C := C) (n := n) (T := T) (fun y hy ht => by
        obtain ⟨k, hk, hs, hf⟩ := h y hy ht
        refine ⟨k, ?_, hs, hf⟩
        by_cases e : k = n
        · subst e; subst hf; exact absurd ⟨hs, hy, ht⟩ q
        · omega)
      omega
/-- a part has no more other corners than hedges -/
theorem dF_rank {a b : Nat → Nat} {n C : Nat} {S : Nat → Bool} {w1 w2 : Nat → Int} (H : HYf a b n C S w1 w2) (c : Nat) : cnt (fun y => !decide (y = c) && decide (dF a b n C S w1 w2 c y < 65535)) C ≤ cnt S n := by
  refine cnt_cover (f := fun h => if dF a b n C S w1 w2 c (a h) < dF a b n C S w1 w2 c (b h) then b h else a h) (fun y _ ht => ?_)
  obtain ⟨p1, p2⟩ := Bool.and_eq_true_iff.mp ht
  have hne : c ≠ y := fun z => by rw [decide_eq_true z.symm] at p1; cases p1
  have p3 := of_decide_eq_true p2
  obtain ⟨z, ⟨k, hk, hs, e⟩, hl⟩ := dF_p H hne (by omega)
  refine ⟨k, hk, hs, ?_⟩
  show (if dF a b n C S w1 w2 c (a k) < dF a b n C S w1 w2 c (b k) then b k else a k) = y
  rcases e with ⟨e1, e2⟩ | ⟨e1, e2⟩
  · subst e1; subst e2; rw [if_pos hl]
  · subst e1; subst e2; rw [if_neg (by omega)]
