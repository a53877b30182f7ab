/-! TWO RUNS: both end, and what they answer stands in a relation -/
def TR {α β : Type} (P : α → β → Prop) (o : Option α) (o' : Option β) : Prop := ∃ a b, o = some a ∧ o' = some b ∧ P a b
theorem t_ret {α β : Type} {P : α → β → Prop} {a : α} {b : β} (h : P a b) : TR P (some a) (some b) := ⟨a, b, rfl, rfl, h⟩
theorem t_mono {α β : Type} {P Q : α → β → Prop} {o : Option α} {o' : Option β} (h : TR P o o') (k : ∀ a b, P a b → Q a b) : TR Q o o' := by
  obtain ⟨a, b, e, e', h⟩ := h
  exact ⟨a, b, e, e', k a b h⟩
theorem t_bd {α β γ δ : Type} {P : α → β → Prop} {Q : γ → δ → Prop} {o : Option α} {o' : Option β} {k : α → Option γ} {k' : β → Option δ} (h : TR P o o') (h2 : ∀ a b, P a b → TR Q (k a) (k' b)) : TR Q (o.bind k) (o'.bind k') := by
  obtain ⟨a, b, rfl, rfl, h⟩ := h
  exact h2 a b h
theorem tl_bd {α β γ : Type} {P : α → Prop} {Q : γ → β → Prop} {o : Option α} {o' : Option β} {k : α → Option γ} (h : Sf P o) (h2 : ∀ a, P a → TR Q (k a) o') : TR Q (o.bind k) o' := by
  obtain ⟨a, rfl, h⟩ := h
  exact h2 a h
theorem tr_bd {α β δ : Type} {P : β → Prop} {Q : α → δ → Prop} {o : Option α} {o' : Option β} {k : β → Option δ} (h : Sf P o') (h2 : ∀ b, P b → TR Q o (k b)) : TR Q o (o'.bind k) := by
  obtain ⟨b, rfl, h⟩ := h
  exact h2 b h
theorem tl_if {α β : Type} {P : α → β → Prop} {c : Prop} [d : Decidable c] {a b : Option α} {o' : Option β} (h1 : c → TR P a o') (h2 : ¬ c → TR P b o') : TR P (if c then a else b) o' := by
  by_cases h : c
  · rw [if_pos h]; exact h1 h
  · rw [if_neg h]; exact h2 h
theorem tr_if {α β : Type} {P : α → β → Prop} {c : Prop} [d : Decidable c] {a b : Option β} {o : Option α} (h1 : c → TR P o a) (h2 : ¬ c → TR P o b) : TR P o (if c then a else b) := by
  by_cases h : c
  · rw [if_pos h]; exact h1 h
  · rw [if_neg h]; exact h2 h
theorem ltI {x y : Int32} : x < y ↔ x.toInt < y.toInt := Int32.lt_iff_toInt_lt
theorem leI {x y : Int32} : x ≤ y ↔ x.toInt ≤ y.toInt := Int32.le_iff_toInt_le
theorem eqI {x y : Int32} : x = y ↔ x.toInt = y.toInt := Int32.toInt_inj.symm
theorem tl_lt {α β : Type} {P : α → β → Prop} {x y : Int32} {a b : Option α} {o' : Option β} (h1 : x.toInt < y.toInt → TR P a o') (h2 : y.toInt ≤ x.toInt → TR P b o') : TR P (if x < y then a else b) o' := tl_if (fun h => h1 (ltI.mp h)) (fun h => h2 (Int.not_lt.mp (fun q => h (ltI.mpr q))))
theorem tl_le {α β : Type} {P : α → β → Prop} {x y : Int32} {a b : Option α} {o' : Option β} (h1 : x.toInt ≤ y.toInt → TR P a o') (h2 : y.toInt < x.toInt → TR P b o') : TR P (if x ≤ y then a else b) o' := tl_if (fun h => h1 (leI.mp h)) (fun h => h2 (Int.not_le.mp (fun q => h (leI.mpr q))))
theorem tl_eq {α β : Type} {P : α → β → Prop} {x y : Int32} {a b : Option α} {o' : Option β} (h1 : x.toInt = y.toInt → TR P a o') (h2 : x.toInt ≠ y.toInt → TR P b o') : TR P (if x = y then a else b) o' := tl_if (fun h => h1 (eqI.mp h)) (fun h => h2 (fun q => h (eqI.mpr q)))
theorem tr_lt {α β : Type} {P : α → β → Prop} {x y : Int32} {a b : Option β} {o : Option α} (h1 : x.toInt < y.toInt → TR P o a) (h2 : y.toInt ≤ x.toInt → TR P o b) : TR P o (if x < y then a else b) := tr_if (fun h => h1 (ltI.mp h)) (fun h => h2 (Int.not_lt.mp (fun q => h (ltI.mpr q))))
theorem tr_le {α β : Type} {P : α → β → Prop} {x y : Int32} {a b : Option β} {o : Option α} (h1 : x.toInt ≤ y.toInt → TR P o a) (h2 : y.toInt < x.toInt → TR P o b) : TR P o (if x ≤ y then a else b) := tr_if (fun h => h1 (leI.mp h)) (fun h => h2 (Int.not_le.mp (fun q => h (leI.mpr q))))
theorem tr_eq {α β : Type} {P : α → β → Prop} {x y : Int32} {a b : Option β} {o : Option α} (h1 : x.toInt = y.toInt → TR P o a) (h2 : x.toInt ≠ y.toInt → TR P o b) : TR P o (if x = y then a else b) := tr_if (fun h => h1 (eqI.mp h)) (fun h => h2 (fun q => h (eqI.mpr q)))
theorem ix_in {i : Int32} {n : Nat} (h : 0 ≤ i.toInt ∧ i.toInt < (n : Int)) : sm_ix i n := by
  refine ⟨leI.mpr (by rw [show (0 : Int32).toInt = 0 by decide]; exact h.1), ?_⟩
  rw [← Int32.toNat_toInt]; omega
theorem tl_ix {α β : Type} {P : α → β → Prop} {i : Int32} {n : Nat} {a : Option α} {o' : Option β} (h : 0 ≤ i.toInt ∧ i.toInt < (n : Int)) (k : TR P a o') : TR P (if sm_ix i n then a else none) o' := by
  rw [if_pos (ix_in h)]; exact k
theorem tr_ix {α β : Type} {P : α → β → Prop} {i : Int32} {n : Nat} {a : Option β} {o : Option α} (h : 0 ≤ i.toInt ∧ i.toInt < (n : Int)) (k : TR P o a) : TR P o (if sm_ix i n then a else none) := by
  rw [if_pos (ix_in h)]; exact k
theorem t_sf {α β : Type} {P : α → Prop} {Q : β → Prop} {R : α → β → Prop} {o : Option α} {o' : Option β} (h : Sf P o) (h' : Sf Q o') (k : ∀ a b, P a → Q b → R a b) : TR R o o' := by
  obtain ⟨a, rfl, ha⟩ := h
  obtain ⟨b, rfl, hb⟩ := h'
  exact ⟨a, b, rfl, rfl, k a b ha hb⟩
theorem Fr.sub {V W : List (Nat × Nat)} {m m' : sm_S} (h : Fr V m m') (hs : subW V W = true) : Fr W m m' := Fr.trans Fr.refl h hs
/-! one text is read at the same place by both -/
def TS (m s : sm_S) : Prop := m.1 1 2 = s.1 72 22 ∧ m.1 1 3 = s.1 72 23 ∧ (m.1 1 2).toInt ≤ (m.1 1 3).toInt ∧ ∀ j : Nat, (j : Int) < (m.1 1 3).toInt → m.1 2 j = s.1 84 j
theorem TS.of {m s m' s' : sm_S} (h : TS m s) (F1 : Fr [(1, 2)] m m') (F2 : Fr [(72, 22)] s s') (e : (m'.1 1 2).toInt = (s'.1 72 22).toInt) (hl : (m'.1 1 2).toInt ≤ (m.1 1 3).toInt) : TS m' s' := by
  obtain ⟨h1, h2, h3, h4⟩ := h
  refine ⟨Int32.toInt_inj.mp e, by rw [F1 1 3 rfl, F2 72 23 rfl]; exact h2, by rw [F1 1 3 rfl]; exact hl, fun j hj => ?_⟩
  rw [F1 1 3 rfl] at hj
  rw [F1 2 j rfl, F2 84 j rfl]; exact h4 j hj
theorem TS.ch {m s : sm_S} (h : TS m s) (hI : zI m) (hl : (m.1 1 2).toInt < (m.1 1 3).toInt) : (m.1 1 2).toInt = (s.1 72 22).toInt ∧ (m.1 1 3).toInt = (s.1 72 23).toInt ∧ (m.1 2 (m.1 1 2).toNatClampNeg).toInt = (s.1 84 (s.1 72 22).toNatClampNeg).toInt := by
  obtain ⟨h1, h2, h3, h4⟩ := h
  have c : 0 ≤ (m.1 1 2).toInt ∧ (m.1 1 2).toInt ≤ 80 := hI.1 1 2
  have e := a_tn c.1
  refine ⟨by rw [h1], by rw [h2], ?_⟩
  rw [← h1, h4 _ (by omega)]
/-- a primitive on both sides -/
def PQ (m s : sm_S) (a b : Int32 × sm_S) : Prop := a.1 = b.1 ∧ TS a.2 b.2 ∧ zI a.2 ∧ zI b.2 ∧ Fr [(1, 2)] m a.2 ∧ Fr [(72, 22)] s b.2 ∧ (m.1 1 2).toInt ≤ (a.2.1 1 2).toInt
theorem t_digit {k : Int32} {m s : sm_S} (hk : 5 ≤ k.toInt ∧ k.toInt ≤ 9) (hT : TS m s) (hI : zI m) (hJ : zI s) : TR (fun a b => PQ m s a b ∧ -1 ≤ a.1.toInt ∧ a.1.toInt ≤ k.toInt ∧ (0 ≤ a.1.toInt → (a.2.1 1 2).toInt = (m.1 1 2).toInt + 1) ∧ (a.1.toInt < 0 → (a.2.1 1 2).toInt = (m.1 1 2).toInt)) (fX8_digit k m) (fX12_digit k s) := by
  refine t_sf (zX8_digit_v k m hk hI) (zX12_digit_v k s hk hJ) ?_
  rintro a b ⟨⟨-, -, pa⟩, ia, fa⟩ ⟨⟨-, -, pb⟩, ib, fb⟩
  have hl := hT.2.2.1
  have e1 : (m.1 1 2).toInt = (s.1 72 22).toInt := congrArg Int32.toInt hT.1
  have e2 : (m.1 1 3).toInt = (s.1 72 23).toInt := congrArg Int32.toInt hT.2.1
  have hc := hT.ch hI
  have q : a.1.toInt = b.1.toInt ∧ (a.2.1 1 2).toInt = (b.2.1 72 22).toInt ∧ (a.2.1 1 2).toInt ≤ (m.1 1 3).toInt ∧ (m.1 1 2).toInt ≤ (a.2.1 1 2).toInt ∧ -1 ≤ a.1.toInt ∧ a.1.toInt ≤ k.toInt ∧ (0 ≤ a.1.toInt → (a.2.1 1 2).toInt = (m.1 1 2).toInt + 1) ∧ (a.1.toInt < 0 → (a.2.1 1 2).toInt = (m.1 1 2).toInt) := by
    by_cases hlt : (m.1 1 2).toInt < (m.1 1 3).toInt
    · have hc := (hc hlt).2.2
      rcases pa with pa | pa <;> rcases pb with pb | pb <;> omega
    · rcases pa with pa | pa <;> rcases pb with pb | pb <;> omega
  exact ⟨⟨Int32.toInt_inj.mp q.1, TS.of hT fa fb q.2.1 q.2.2.1, ia, ib, fa, fb, q.2.2.2.1⟩, q.2.2.2.2⟩
theorem t_skip {k : Int32} {m s : sm_S} (hk : 58 ≤ k.toInt ∧ k.toInt ≤ 126) (hT : TS m s) (hI : zI m) (hJ : zI s) : TR (fun a b => PQ m s a b ∧ (a.1.toInt = 0 ∨ a.1.toInt = 1)) (fX8_skip k m) (fX12_takes k s) := by
  refine t_sf (zX8_skip_v k m hk hI) (zX12_takes_v k s hk hJ) ?_
  rintro a b ⟨⟨-, -, pa⟩, ia, fa⟩ ⟨⟨-, -, pb⟩, ib, fb⟩
  have hl := hT.2.2.1
  have e1 : (m.1 1 2).toInt = (s.1 72 22).toInt := congrArg Int32.toInt hT.1
  have e2 : (m.1 1 3).toInt = (s.1 72 23).toInt := congrArg Int32.toInt hT.2.1
  have hc := hT.ch hI
  have q : a.1.toInt = b.1.toInt ∧ (a.2.1 1 2).toInt = (b.2.1 72 22).toInt ∧ (a.2.1 1 2).toInt ≤ (m.1 1 3).toInt ∧ (m.1 1 2).toInt ≤ (a.2.1 1 2).toInt ∧ (a.1.toInt = 0 ∨ a.1.toInt = 1) := by
    by_cases hlt : (m.1 1 2).toInt < (m.1 1 3).toInt
    · have hc := (hc hlt).2.2
      rcases pa with pa | pa <;> rcases pb with pb | pb <;> omega
    · rcases pa with pa | pa <;> rcases pb with pb | pb <;> omega
  exact ⟨⟨Int32.toInt_inj.mp q.1, TS.of hT fa fb q.2.1 q.2.2.1, ia, ib, fa, fb, q.2.2.2.1⟩, q.2.2.2.2⟩
theorem t_letter {k : Int32} {m s : sm_S} (hk : -1 ≤ k.toInt ∧ k.toInt ≤ 9) (hT : TS m s) (hc4 : m.1 1 4 = s.1 72 24) (hI : zI m) (hJ : zI s) : TR (fun a b => PQ m s a b ∧ -1 ≤ a.1.toInt ∧ a.1.toInt ≤ 9 ∧ (0 ≤ a.1.toInt → (a.2.1 1 2).toInt = (m.1 1 2).toInt + 1)) (fX8_cornerLetter k m) (fX12_cornerBut k s) := by
  refine t_sf (zX8_cornerLetter_v k m hk hI) (zX12_cornerBut_v k s hk hJ) ?_
  rintro a b ⟨⟨g1, g2, pa⟩, ia, fa⟩ ⟨⟨-, -, pb⟩, ib, fb⟩
  have hl := hT.2.2.1
  have e1 : (m.1 1 2).toInt = (s.1 72 22).toInt := congrArg Int32.toInt hT.1
  have e2 : (m.1 1 3).toInt = (s.1 72 23).toInt := congrArg Int32.toInt hT.2.1
  have e3 : (m.1 1 4).toInt = (s.1 72 24).toInt := congrArg Int32.toInt hc4
  have hc := hT.ch hI
  have q : a.1.toInt = b.1.toInt ∧ (a.2.1 1 2).toInt = (b.2.1 72 22).toInt ∧ (a.2.1 1 2).toInt ≤ (m.1 1 3).toInt ∧ (m.1 1 2).toInt ≤ (a.2.1 1 2).toInt ∧ (0 ≤ a.1.toInt → (a.2.1 1 2).toInt = (m.1 1 2).toInt + 1) := by
    by_cases hlt : (m.1 1 2).toInt < (m.1 1 3).toInt
    · have hc := (hc hlt).2.2
      rcases pa with pa | pa <;> rcases pb with pb | pb <;> omega
    · rcases pa with pa | pa <;> rcases pb with pb | pb <;> omega
  exact ⟨⟨Int32.toInt_inj.mp q.1, TS.of hT fa fb q.2.1 q.2.2.1, ia, ib, fa, fb, q.2.2.2.1⟩, g1, g2, q.2.2.2.2⟩
