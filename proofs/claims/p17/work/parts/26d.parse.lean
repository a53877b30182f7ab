/-! BOTH READ A LAND'S TEXT THE SAME WAY -/
def RP (c h : Int) (g : Int32) (m s : sm_S) : Prop := (∀ j : Nat, (j : Int) < c → m.1 4 j = s.1 74 j ∧ m.1 5 j = s.1 75 j) ∧ (∀ j : Nat, (j : Int) < h → m.1 6 j = s.1 76 j ∧ m.1 7 j = s.1 77 j ∧ m.1 8 j = s.1 78 j ∧ m.1 9 j = s.1 79 j ∧ m.1 10 j = s.1 80 j ∧ m.1 11 j = s.1 81 j ∧ m.1 12 j = s.1 82 j ∧ m.1 13 j = (if bt g j then (1 : Int32) else 0))
/-- what is read is laid behind the land in both -/
def PS (m s : sm_S) : Prop := m.1 1 4 = s.1 72 24 ∧ m.1 1 5 = s.1 72 25 ∧ RP (m.1 1 4).toInt (m.1 1 5).toInt (s.1 72 14 ||| s.1 72 26) m s ∧ (∀ i : Nat, i < 32 → bt (s.1 72 26) i = true → (s.1 72 6).toInt ≤ (i : Int) ∧ (i : Int) < (s.1 72 25).toInt) ∧ (∀ i : Nat, i < 32 → bt (s.1 72 14) i = true → (i : Int) < (s.1 72 6).toInt)
theorem PS.fr {m s m' s' : sm_S} (h : PS m s) (F1 : Fr [(1, 2)] m m') (F2 : Fr [(72, 22)] s s') : PS m' s' := by
  obtain ⟨h1, h2, ⟨h3, h4⟩, h5, h6⟩ := h
  refine ⟨by rw [F1 1 4 rfl, F2 72 24 rfl]; exact h1, by rw [F1 1 5 rfl, F2 72 25 rfl]; exact h2, ⟨fun j hj => ?_, fun j hj => ?_⟩, ?_, ?_⟩
  · rw [F1 1 4 rfl] at hj
    rw [F1 4 j rfl, F1 5 j rfl, F2 74 j rfl, F2 75 j rfl]; exact h3 j hj
  · rw [F1 1 5 rfl] at hj
    rw [F1 6 j rfl, F1 7 j rfl, F1 8 j rfl, F1 9 j rfl, F1 10 j rfl, F1 11 j rfl, F1 12 j rfl, F1 13 j rfl, F2 76 j rfl, F2 77 j rfl, F2 78 j rfl, F2 79 j rfl, F2 80 j rfl, F2 81 j rfl, F2 82 j rfl, F2 72 14 rfl, F2 72 26 rfl]; exact h4 j hj
  · rw [F2 72 26 rfl, F2 72 6 rfl, F2 72 25 rfl]; exact h5
  · rw [F2 72 14 rfl, F2 72 6 rfl]; exact h6
/-- the reference's writes at the place behind the hedges -/
theorem PS.wr {m s : sm_S} (h : PS m s) {a k : Nat} {v : Int32} (ha : 76 ≤ a ∧ a ≤ 82) (hk : (s.1 72 25).toInt ≤ (k : Int)) : PS m (sm_w1 s a k v) := by
  obtain ⟨h1, h2, ⟨h3, h4⟩, h5, h6⟩ := h
  have n72 : ∀ j, (sm_w1 s a k v).1 72 j = s.1 72 j := fun j => r_cell (by omega)
  have e2 : (m.1 1 5).toInt = (s.1 72 25).toInt := congrArg Int32.toInt h2
  refine ⟨by rw [n72]; exact h1, by rw [n72]; exact h2, ⟨fun j hj => ?_, fun j hj => ?_⟩, ?_, ?_⟩
  · rw [r_cell (c := 74) (by omega), r_cell (c := 75) (by omega)]; exact h3 j hj
  · have hne : j ≠ k := by omega
    rw [r_place hne, r_place hne, r_place hne, r_place hne, r_place hne, r_place hne, r_place hne, n72, n72]; exact h4 j hj
  · rw [n72, n72, n72]; exact h5
  · rw [n72, n72]; exact h6
theorem TS.wr {m s : sm_S} (h : TS m s) {a k : Nat} {v : Int32} (ha : a ≠ 72 ∧ a ≠ 84) : TS m (sm_w1 s a k v) := by
  obtain ⟨h1, h2, h3, h4⟩ := h
  refine ⟨by rw [r_cell (fun e => ha.1 e.symm)]; exact h1, by rw [r_cell (fun e => ha.1 e.symm)]; exact h2, h3, fun j hj => ?_⟩
  rw [r_cell (fun e => ha.2 e.symm)]; exact h4 j hj
/-- both at work on the same line -/
def TP (m s : sm_S) : Prop := TS m s ∧ PS m s ∧ zI m ∧ zI s
theorem t_number {m s : sm_S} (hT : TS m s) (hI : zI m) (hJ : zI s) : TR (fun a b => PQ m s a b ∧ (a.1.toInt = -1 ∨ (1 ≤ a.1.toInt ∧ a.1.toInt ≤ 20))) (fX8_longDigits m) (fX12_number (1 : Int32) (20 : Int32) s) := by
  have l0 := L0
  have l1 := L1
  have l9 := L9
  have l10 := L10
  have l20 := L20
  have ln1 := Ln1
  unfold fX8_longDigits fX12_number
  refine t_bd (t_digit (by omega) hT hI hJ) (fun a b h => ?_)
  obtain ⟨⟨e, T1, I1, J1, F1, G1, q1⟩, p1, p2, p3, p4⟩ := h
  have e' : a.1.toInt = b.1.toInt := congrArg Int32.toInt e
  have cm : 0 ≤ (m.1 1 2).toInt ∧ (m.1 1 2).toInt ≤ 80 := hI.1 1 2
  have ca : 0 ≤ (a.2.1 1 2).toInt ∧ (a.2.1 1 2).toInt ≤ 80 := I1.1 1 2
  have ea : (a.2.1 1 2).toInt = (b.2.1 72 22).toInt := congrArg Int32.toInt T1.1
  refine tl_le (fun h1 => ?_) (fun h1 => ?_)
  · refine tr_le (fun _ => ?_) (fun h2 => by omega)
    refine tl_bd (zX8_digit_v (9 : Int32) a.2 (by omega) I1) (fun c hc => ?_)
    obtain ⟨⟨-, -, pc⟩, I2, F2⟩ := hc
    refine tr_bd (zX12_isDigit_v b.2 J1) (fun d hd => ?_)
    obtain ⟨-, -, pd⟩ := hd
    have hl := T1.2.2.1
    have e2 : (a.2.1 1 3).toInt = (b.2.1 72 23).toInt := congrArg Int32.toInt T1.2.1
    have hch : (a.2.1 1 2).toInt < (a.2.1 1 3).toInt → (a.2.1 2 (a.2.1 1 2).toNatClampNeg).toInt = (b.2.1 84 (b.2.1 72 22).toNatClampNeg).toInt := fun g => (T1.ch I1 g).2.2
    have f1 : Fr [(1, 2)] m c.2 := Fr.trans F1 F2 rfl
    have c2 : 0 ≤ (c.2.1 1 2).toInt ∧ (c.2.1 1 2).toInt ≤ 80 := I2.1 1 2
    refine tl_lt (fun h2 => ?_) (fun h2 => ?_)
    · -- one digit
      have k1 : (c.2.1 1 2).toInt = (a.2.1 1 2).toInt := by rcases pc with pc | pc <;> omega
      have k2 : d.toInt = 0 := by
        by_cases g : (a.2.1 1 2).toInt < (a.2.1 1 3).toInt
        · have := hch g
          rcases pc with pc | pc <;> rcases pd with pd | pd <;> omega
        · rcases pc with pc | pc <;> rcases pd with pd | pd <;> omega
      refine tr_eq (fun _ => ?_) (fun h3 => by omega)
      have eb1 : (b.1).toInt64.toInt = b.1.toInt := Int32.toInt_toInt64 _
      have el1 : ((1 : Int32)).toInt64.toInt = (1 : Int32).toInt := Int32.toInt_toInt64 _
      have el20 : ((20 : Int32)).toInt64.toInt = (20 : Int32).toInt := Int32.toInt_toInt64 _
      refine tr_bd (zX12_in _ _ _ b.2 (by omega) J1) (fun z hz => ?_)
      obtain ⟨-, -, pz⟩ := hz
      have es : ((c.2.1 1 2) - (1 : Int32)).toInt = (c.2.1 1 2).toInt - 1 := a_subl L1 (by omega) (by omega)
      have es2 : ((b.2.1 72 22) - (1 : Int32)).toInt = (b.2.1 72 22).toInt - 1 := a_subl L1 (by omega) (by omega)
      have bad : ∀ z : Int32, z.toInt = -1 → PQ m s (z, sm_w1 c.2 1 2 ((c.2.1 1 2) - (1 : Int32))) (z, sm_w1 b.2 72 22 ((b.2.1 72 22) - (1 : Int32))) ∧ (z.toInt = -1 ∨ (1 ≤ z.toInt ∧ z.toInt ≤ 20)) := by
        intro z hz
        have i1 : zI (sm_w1 c.2 1 2 ((c.2.1 1 2) - (1 : Int32))) := zI.w I2 rfl (show 0 ≤ ((c.2.1 1 2) - (1 : Int32)).toInt ∧ ((c.2.1 1 2) - (1 : Int32)).toInt ≤ 80 by omega)
        have j1 : zI (sm_w1 b.2 72 22 ((b.2.1 72 22) - (1 : Int32))) := zI.w J1 rfl (show 0 ≤ ((b.2.1 72 22) - (1 : Int32)).toInt ∧ ((b.2.1 72 22) - (1 : Int32)).toInt ≤ 80 by omega)
        have g1 : Fr [(1, 2)] m (sm_w1 c.2 1 2 ((c.2.1 1 2) - (1 : Int32))) := Fr.w f1 rfl
        have g2 : Fr [(72, 22)] s (sm_w1 b.2 72 22 ((b.2.1 72 22) - (1 : Int32))) := Fr.w G1 rfl
        have h12 : (sm_w1 c.2 1 2 ((c.2.1 1 2) - (1 : Int32))).1 1 2 = (c.2.1 1 2) - (1 : Int32) := r_hit
        have h22 : (sm_w1 b.2 72 22 ((b.2.1 72 22) - (1 : Int32))).1 72 22 = (b.2.1 72 22) - (1 : Int32) := r_hit
        have hm3 : (a.2.1 1 3).toInt = (m.1 1 3).toInt := congrArg Int32.toInt (F1 1 3 rfl)
        refine ⟨⟨rfl, TS.of hT g1 g2 (by rw [h12, h22]; omega) (by rw [h12]; omega), i1, j1, g1, g2, ?_⟩, Or.inl (by omega)⟩
        show (m.1 1 2).toInt ≤ ((sm_w1 c.2 1 2 ((c.2.1 1 2) - (1 : Int32))).1 1 2).toInt
        rw [h12]; omega
      refine tl_lt (fun h4 => ?_) (fun h4 => ?_)
      · refine tr_eq (fun h5 => t_ret (bad _ ln1)) (fun h5 => by omega)
      · refine tl_le (fun h6 => ?_) (fun h6 => by omega)
        refine tr_eq (fun h5 => by omega) (fun h5 => ?_)
        refine t_ret ⟨⟨e, TS.of T1 F2 Fr.refl (show (c.2.1 1 2).toInt = (b.2.1 72 22).toInt by omega) (show (c.2.1 1 2).toInt ≤ (a.2.1 1 3).toInt by omega), I2, J1, f1, G1, show (m.1 1 2).toInt ≤ (c.2.1 1 2).toInt by omega⟩, Or.inr (show 1 ≤ a.1.toInt ∧ a.1.toInt ≤ 20 by omega)⟩
    · -- two digits
      have k2 : d.toInt = 1 := by
        by_cases g : (a.2.1 1 2).toInt < (a.2.1 1 3).toInt
        · have := hch g
          rcases pc with pc | pc <;> rcases pd with pd | pd <;> omega
        · rcases pc with pc | pc <;> rcases pd with pd | pd <;> omega
      refine tr_eq (fun h3 => by omega) (fun h3 => ?_)
      refine tr_bd (zX12_digit_v (9 : Int32) b.2 (by omega) J1) (fun g hg => ?_)
      obtain ⟨⟨-, -, pg⟩, J2, G2⟩ := hg
      have k3 : g.1.toInt = c.1.toInt ∧ (g.2.1 72 22).toInt = (c.2.1 1 2).toInt ∧ (c.2.1 1 2).toInt = (a.2.1 1 2).toInt + 1 ∧ (c.2.1 1 2).toInt ≤ (a.2.1 1 3).toInt ∧ c.1.toInt ≤ 9 := by
        by_cases q : (a.2.1 1 2).toInt < (a.2.1 1 3).toInt
        · have := hch q
          rcases pc with pc | pc <;> rcases pg with pg | pg <;> omega
        · rcases pc with pc | pc <;> omega
      have f2 : Fr [(72, 22)] s g.2 := Fr.trans G1 G2 rfl
      have kg : g.1 = c.1 := Int32.toInt_inj.mp k3.1
      have ev : ((10 : Int32) * a.1).toInt = 10 * a.1.toInt := a_mul L10 rfl (by omega) (by omega)
      have ev2 : (((10 : Int32) * a.1) + c.1).toInt = ((10 : Int32) * a.1).toInt + c.1.toInt := a_add (by omega) (by omega)
      have evb : (((10 : Int32) * b.1) + g.1) = (((10 : Int32) * a.1) + c.1) := by rw [kg, e]
      rw [evb]
      have eb1 : ((((10 : Int32) * a.1) + c.1)).toInt64.toInt = (((10 : Int32) * a.1) + c.1).toInt := Int32.toInt_toInt64 _
      have el1 : ((1 : Int32)).toInt64.toInt = (1 : Int32).toInt := Int32.toInt_toInt64 _
      have el20 : ((20 : Int32)).toInt64.toInt = (20 : Int32).toInt := Int32.toInt_toInt64 _
      refine tr_bd (zX12_in _ _ _ g.2 (by omega) J2) (fun z hz => ?_)
      obtain ⟨-, -, pz⟩ := hz
      have es : ((c.2.1 1 2) - (1 : Int32)).toInt = (c.2.1 1 2).toInt - 1 := a_subl L1 (by omega) (by omega)
      have es2 : ((g.2.1 72 22) - (1 : Int32)).toInt = (g.2.1 72 22).toInt - 1 := a_subl L1 (by omega) (by omega)
      have hm3 : (a.2.1 1 3).toInt = (m.1 1 3).toInt := congrArg Int32.toInt (F1 1 3 rfl)
      have bad : ∀ z : Int32, z.toInt = -1 → PQ m s (z, sm_w1 c.2 1 2 ((c.2.1 1 2) - (1 : Int32))) (z, sm_w1 g.2 72 22 ((g.2.1 72 22) - (1 : Int32))) ∧ (z.toInt = -1 ∨ (1 ≤ z.toInt ∧ z.toInt ≤ 20)) := by
        intro z hz
        have i1 : zI (sm_w1 c.2 1 2 ((c.2.1 1 2) - (1 : Int32))) := zI.w I2 rfl (show 0 ≤ ((c.2.1 1 2) - (1 : Int32)).toInt ∧ ((c.2.1 1 2) - (1 : Int32)).toInt ≤ 80 by omega)
        have j1 : zI (sm_w1 g.2 72 22 ((g.2.1 72 22) - (1 : Int32))) := zI.w J2 rfl (show 0 ≤ ((g.2.1 72 22) - (1 : Int32)).toInt ∧ ((g.2.1 72 22) - (1 : Int32)).toInt ≤ 80 by omega)
        have g1 : Fr [(1, 2)] m (sm_w1 c.2 1 2 ((c.2.1 1 2) - (1 : Int32))) := Fr.w f1 rfl
        have g2 : Fr [(72, 22)] s (sm_w1 g.2 72 22 ((g.2.1 72 22) - (1 : Int32))) := Fr.w f2 rfl
        have h12 : (sm_w1 c.2 1 2 ((c.2.1 1 2) - (1 : Int32))).1 1 2 = (c.2.1 1 2) - (1 : Int32) := r_hit
        have h22 : (sm_w1 g.2 72 22 ((g.2.1 72 22) - (1 : Int32))).1 72 22 = (g.2.1 72 22) - (1 : Int32) := r_hit
        refine ⟨⟨rfl, TS.of hT g1 g2 (by rw [h12, h22]; omega) (by rw [h12]; omega), i1, j1, g1, g2, ?_⟩, Or.inl (by omega)⟩
        show (m.1 1 2).toInt ≤ ((sm_w1 c.2 1 2 ((c.2.1 1 2) - (1 : Int32))).1 1 2).toInt
        rw [h12]; omega
      refine tl_lt (fun h4 => ?_) (fun h4 => ?_)
      · refine tr_eq (fun h5 => t_ret (bad _ ln1)) (fun h5 => by omega)
      · refine tl_le (fun h6 => ?_) (fun h6 => ?_)
        · refine tr_eq (fun h5 => by omega) (fun h5 => ?_)
          refine t_ret ⟨⟨rfl, TS.of hT f1 f2 (show (c.2.1 1 2).toInt = (g.2.1 72 22).toInt by omega) (show (c.2.1 1 2).toInt ≤ (m.1 1 3).toInt by omega), I2, J2, f1, f2, show (m.1 1 2).toInt ≤ (c.2.1 1 2).toInt by omega⟩, Or.inr (show 1 ≤ (((10 : Int32) * a.1) + c.1).toInt ∧ (((10 : Int32) * a.1) + c.1).toInt ≤ 20 by omega)⟩
        · refine tr_eq (fun h5 => t_ret (bad _ ln1)) (fun h5 => by omega)
  · refine tr_le (fun h2 => by omega) (fun h2 => ?_)
    exact t_ret ⟨⟨rfl, T1, I1, J1, F1, G1, q1⟩, Or.inl (by omega)⟩
theorem t_and {α β : Type} {P : α → β → Prop} {Q : α → Prop} {R : β → Prop} {o : Option α} {o' : Option β} (h : TR P o o') (h1 : Sf Q o) (h2 : Sf R o') : TR (fun a b => P a b ∧ Q a ∧ R b) o o' := by
  obtain ⟨a, b, rfl, rfl, h⟩ := h
  obtain ⟨c, e, hc⟩ := h1
  obtain ⟨d, e2, hd⟩ := h2
  obtain rfl := Option.some.inj e
  obtain rfl := Option.some.inj e2
  exact ⟨a, b, rfl, rfl, h, hc, hd⟩
/-- behind a line, without what safety tells already -/
def LQ0 (m s : sm_S) (a b : Int32 × sm_S) : Prop := a.1 = b.1 ∧ TS a.2 b.2 ∧ PS a.2 b.2 ∧ (m.1 1 2).toInt ≤ (a.2.1 1 2).toInt ∧ (a.1.toInt = 1 → (m.1 1 2).toInt < (a.2.1 1 2).toInt) ∧ (m.1 1 4).toInt ≤ (a.2.1 1 4).toInt ∧ (m.1 1 5).toInt ≤ (a.2.1 1 5).toInt
theorem PS.corner {m s : sm_S} (h : PS m s) (hs : 0 ≤ (m.1 1 4).toInt ∧ (m.1 1 4).toInt < 10) {x y : Int32} : PS (sm_w1 (sm_w1 (sm_w1 m 4 (m.1 1 4).toNatClampNeg x) 5 (m.1 1 4).toNatClampNeg y) 1 4 ((m.1 1 4) + (1 : Int32))) (sm_w1 (sm_w1 (sm_w1 s 74 (s.1 72 24).toNatClampNeg x) 75 (s.1 72 24).toNatClampNeg y) 72 24 ((s.1 72 24) + (1 : Int32))) := by
  obtain ⟨h1, h2, ⟨h3, h4⟩, h5, h6⟩ := h
  have et := a_tn hs.1
  have e1 : ((m.1 1 4) + (1 : Int32)).toInt = (m.1 1 4).toInt + 1 := a_addl L1 (by omega) (by omega)
  rw [← h1]
  refine ⟨by rw [r_hit, r_hit], ?_, ⟨fun j hj => ?_, fun j hj => ?_⟩, ?_, ?_⟩
  · rw [r_place (by decide), r_cell (by decide), r_cell (by decide), r_place (by decide), r_cell (by decide), r_cell (by decide)]; exact h2
  · rw [r_hit, e1] at hj
    rw [r_cell (c := 4) (by decide), r_cell (c := 5) (by decide), r_cell (c := 74) (by decide), r_cell (c := 75) (by decide), r_cell (c := 4) (a := 5) (by decide), r_cell (c := 74) (a := 75) (by decide)]
    by_cases q : j = (m.1 1 4).toNatClampNeg
    · subst q; rw [r_hit, r_hit, r_hit, r_hit]; exact ⟨rfl, rfl⟩
    · rw [r_place q, r_place q, r_place q, r_place q, r_place q, r_place q]
      exact h3 j (by omega)
  · have n15 : (sm_w1 (sm_w1 (sm_w1 m 4 (m.1 1 4).toNatClampNeg x) 5 (m.1 1 4).toNatClampNeg y) 1 4 ((m.1 1 4) + (1 : Int32))).1 1 5 = m.1 1 5 := by
      rw [r_place (by decide), r_cell (by decide), r_cell (by decide)]
    rw [n15] at hj
    have nm : ∀ c : Nat, c ≠ 1 → c ≠ 4 → c ≠ 5 → (sm_w1 (sm_w1 (sm_w1 m 4 (m.1 1 4).toNatClampNeg x) 5 (m.1 1 4).toNatClampNeg y) 1 4 ((m.1 1 4) + (1 : Int32))).1 c j = m.1 c j := fun c a1 a2 a3 => by rw [r_cell a1, r_cell a3, r_cell a2]
    have ns : ∀ c : Nat, c ≠ 72 → c ≠ 74 → c ≠ 75 → (sm_w1 (sm_w1 (sm_w1 s 74 (m.1 1 4).toNatClampNeg x) 75 (m.1 1 4).toNatClampNeg y) 72 24 ((m.1 1 4) + (1 : Int32))).1 c j = s.1 c j := fun c a1 a2 a3 => by rw [r_cell a1, r_cell a3, r_cell a2]
    have n72 : ∀ i : Nat, i ≠ 24 → (sm_w1 (sm_w1 (sm_w1 s 74 (m.1 1 4).toNatClampNeg x) 75 (m.1 1 4).toNatClampNeg y) 72 24 ((m.1 1 4) + (1 : Int32))).1 72 i = s.1 72 i := fun i a1 => by rw [r_place a1, r_cell (by decide), r_cell (by decide)]
    rw [nm 6 (by decide) (by decide) (by decide), nm 7 (by decide) (by decide) (by decide), nm 8 (by decide) (by decide) (by decide), nm 9 (by decide) (by decide) (by decide), nm 10 (by decide) (by decide) (by decide), nm 11 (by decide) (by decide) (by decide), nm 12 (by decide) (by decide) (by decide), nm 13 (by decide) (by decide) (by decide), ns 76 (by decide) (by decide) (by decide), ns 77 (by decide) (by decide) (by decide), ns 78 (by decide) (by decide) (by decide), ns 79 (by decide) (by decide) (by decide), ns 80 (by decide) (by decide) (by decide), ns 81 (by decide) (by decide) (by decide), ns 82 (by decide) (by decide) (by decide), n72 14 (by decide), n72 26 (by decide)]
    exact h4 j hj
  · intro i hi
    rw [r_place (by decide), r_cell (by decide), r_cell (by decide), r_place (by decide), r_cell (by decide), r_cell (by decide), r_place (by decide), r_cell (by decide), r_cell (by decide)]
    exact h5 i hi
  · intro i hi
    rw [r_place (by decide), r_cell (by decide), r_cell (by decide), r_place (by decide), r_cell (by decide), r_cell (by decide)]
    exact h6 i hi
theorem t_corner {m s : sm_S} (hP : TP m s) (hl : (m.1 1 2).toInt < (m.1 1 3).toInt) (hx : (m.1 2 (m.1 1 2).toNatClampNeg).toInt = 64) : TR (LQ0 m s) (fX8_readCorner m) (fX12_readsCorner s) := by
  obtain ⟨hT, hS, hI, hJ⟩ := hP
  have l0 := L0
  have l1 := L1
  have l9 := L9
  have l10 := L10
  have l64 := L64
  obtain ⟨t1, t2, t3⟩ := hT.ch hI hl
  have c14 : 0 ≤ (m.1 1 4).toInt ∧ (m.1 1 4).toInt ≤ 10 := hI.1 1 4
  have c12 : 0 ≤ (m.1 1 2).toInt ∧ (m.1 1 2).toInt ≤ 80 := hI.1 1 2
  have c13 : 0 ≤ (m.1 1 3).toInt ∧ (m.1 1 3).toInt ≤ 76 := hI.1 1 3
  have e24 : (m.1 1 4).toInt = (s.1 72 24).toInt := congrArg Int32.toInt hS.1
  have e12 : ((m.1 1 2) + (1 : Int32)).toInt = (m.1 1 2).toInt + 1 := a_addl L1 (by omega) (by omega)
  unfold fX8_readCorner fX12_readsCorner
  refine tl_lt (fun h1 => ?_) (fun h1 => ?_)
  · refine tr_eq (fun h2 => by omega) (fun h2 => ?_)
    refine tr_bd (zX12_takes_v (64 : Int32) s (by omega) hJ) (fun t ht => ?_)
    obtain ⟨⟨-, -, pt⟩, J1, G1⟩ := ht
    have kt : t.1.toInt = 1 ∧ (t.2.1 72 22).toInt = (s.1 72 22).toInt + 1 := by rcases pt with pt | pt <;> omega
    refine tr_eq (fun h3 => by omega) (fun h3 => ?_)
    have i1 : zI (sm_w1 m 1 2 ((m.1 1 2) + (1 : Int32))) := zI.w hI rfl (show 0 ≤ ((m.1 1 2) + (1 : Int32)).toInt ∧ ((m.1 1 2) + (1 : Int32)).toInt ≤ 80 by omega)
    have f1 : Fr [(1, 2)] m (sm_w1 m 1 2 ((m.1 1 2) + (1 : Int32))) := Fr.w Fr.refl rfl
    have h12 : (sm_w1 m 1 2 ((m.1 1 2) + (1 : Int32))).1 1 2 = (m.1 1 2) + (1 : Int32) := r_hit
    have T1 : TS (sm_w1 m 1 2 ((m.1 1 2) + (1 : Int32))) t.2 := TS.of hT f1 G1 (by rw [h12]; omega) (by rw [h12]; omega)
    have q12 : ((sm_w1 m 1 2 ((m.1 1 2) + (1 : Int32))).1 1 2).toInt = (m.1 1 2).toInt + 1 := by rw [h12]; exact e12
    refine t_bd (t_digit (by omega) T1 i1 J1) (fun a b ha => ?_)
    obtain ⟨⟨e2, T2, I2, J2, F2, G2, q2⟩, p1, p2, p3, p4⟩ := ha
    have e2' : a.1.toInt = b.1.toInt := congrArg Int32.toInt e2
    have P2 : PS a.2 b.2 := PS.fr hS (Fr.trans f1 F2 rfl) (Fr.trans G1 G2 rfl)
    refine tl_le (fun g1 => ?_) (fun g1 => ?_)
    · refine tr_le (fun _ => ?_) (fun g2 => by omega)
      refine t_bd (t_digit (by omega) T2 I2 J2) (fun c d hc => ?_)
      obtain ⟨⟨e3, T3, I3, J3, F3, G3, q3⟩, r1, r2, r3, r4⟩ := hc
      have e3' : c.1.toInt = d.1.toInt := congrArg Int32.toInt e3
      have P3 : PS c.2 d.2 := PS.fr P2 F3 G3
      have m14 : (c.2.1 1 4).toInt = (m.1 1 4).toInt := congrArg Int32.toInt ((F3 1 4 rfl).trans ((F2 1 4 rfl).trans (f1 1 4 rfl)))
      have m15 : (c.2.1 1 5).toInt = (m.1 1 5).toInt := congrArg Int32.toInt ((F3 1 5 rfl).trans ((F2 1 5 rfl).trans (f1 1 5 rfl)))
      have s24 : (c.2.1 1 4).toInt = (d.2.1 72 24).toInt := congrArg Int32.toInt P3.1
      refine tl_le (fun g3 => ?_) (fun g3 => ?_)
      · refine tr_le (fun _ => ?_) (fun g4 => by omega)
        refine tl_ix (by omega) (tl_ix (by omega) (tr_ix (by omega) (tr_ix (by omega) (t_ret ?_))))
        have P4 := PS.corner P3 (by omega) (x := a.1) (y := c.1)
        have n2 : (sm_w1 (sm_w1 (sm_w1 c.2 4 (c.2.1 1 4).toNatClampNeg a.1) 5 (c.2.1 1 4).toNatClampNeg c.1) 1 4 ((c.2.1 1 4) + (1 : Int32))).1 1 2 = c.2.1 1 2 := by
          rw [r_place (by decide), r_cell (by decide), r_cell (by decide)]
        rw [← e2, ← e3]
        refine ⟨rfl, ?_, P4, ?_, fun _ => ?_, ?_, ?_⟩
        · obtain ⟨u1, u2, u3, u4⟩ := T3
          refine ⟨?_, ?_, ?_, fun j hj => ?_⟩
          · rw [r_place (by decide), r_cell (by decide), r_cell (by decide), r_place (by decide), r_cell (by decide), r_cell (by decide)]; exact u1
          · rw [r_place (by decide), r_cell (by decide), r_cell (by decide), r_place (by decide), r_cell (by decide), r_cell (by decide)]; exact u2
          · rw [r_place (by decide), r_cell (by decide), r_cell (by decide), r_place (by decide), r_cell (by decide), r_cell (by decide)]; exact u3
          · rw [r_place (by decide), r_cell (by decide), r_cell (by decide)] at hj
            rw [r_cell (by decide), r_cell (by decide), r_cell (by decide), r_cell (by decide), r_cell (by decide), r_cell (by decide)]; exact u4 j hj
        · show (m.1 1 2).toInt ≤ ((sm_w1 (sm_w1 (sm_w1 c.2 4 (c.2.1 1 4).toNatClampNeg a.1) 5 (c.2.1 1 4).toNatClampNeg c.1) 1 4 ((c.2.1 1 4) + (1 : Int32))).1 1 2).toInt
          rw [n2]; omega
        · show (m.1 1 2).toInt < ((sm_w1 (sm_w1 (sm_w1 c.2 4 (c.2.1 1 4).toNatClampNeg a.1) 5 (c.2.1 1 4).toNatClampNeg c.1) 1 4 ((c.2.1 1 4) + (1 : Int32))).1 1 2).toInt
          rw [n2]; omega
        · show (m.1 1 4).toInt ≤ ((sm_w1 (sm_w1 (sm_w1 c.2 4 (c.2.1 1 4).toNatClampNeg a.1) 5 (c.2.1 1 4).toNatClampNeg c.1) 1 4 ((c.2.1 1 4) + (1 : Int32))).1 1 4).toInt
          have e14 : ((c.2.1 1 4) + (1 : Int32)).toInt = (c.2.1 1 4).toInt + 1 := a_addl L1 (by omega) (by omega)
          rw [r_hit]; omega
        · show (m.1 1 5).toInt ≤ ((sm_w1 (sm_w1 (sm_w1 c.2 4 (c.2.1 1 4).toNatClampNeg a.1) 5 (c.2.1 1 4).toNatClampNeg c.1) 1 4 ((c.2.1 1 4) + (1 : Int32))).1 1 5).toInt
          rw [r_place (by decide), r_cell (by decide), r_cell (by decide)]; omega
      · refine tr_le (fun g4 => by omega) (fun _ => ?_)
        exact t_ret ⟨rfl, T3, P3, show (m.1 1 2).toInt ≤ (c.2.1 1 2).toInt by omega, fun q => absurd (show (0 : Int32).toInt = 1 from q) (by decide), show (m.1 1 4).toInt ≤ (c.2.1 1 4).toInt by omega, show (m.1 1 5).toInt ≤ (c.2.1 1 5).toInt by omega⟩
    · refine tr_le (fun g2 => by omega) (fun _ => ?_)
      have m14 : (a.2.1 1 4).toInt = (m.1 1 4).toInt := congrArg Int32.toInt ((F2 1 4 rfl).trans (f1 1 4 rfl))
      have m15 : (a.2.1 1 5).toInt = (m.1 1 5).toInt := congrArg Int32.toInt ((F2 1 5 rfl).trans (f1 1 5 rfl))
      exact t_ret ⟨rfl, T2, P2, show (m.1 1 2).toInt ≤ (a.2.1 1 2).toInt by omega, fun q => absurd (show (0 : Int32).toInt = 1 from q) (by decide), show (m.1 1 4).toInt ≤ (a.2.1 1 4).toInt by omega, show (m.1 1 5).toInt ≤ (a.2.1 1 5).toInt by omega⟩
  · refine tr_eq (fun h2 => ?_) (fun h2 => by omega)
    exact t_ret ⟨rfl, hT, hS, Int.le_refl _, fun q => absurd (show (0 : Int32).toInt = 1 from q) (by decide), Int.le_refl _, Int.le_refl _⟩
