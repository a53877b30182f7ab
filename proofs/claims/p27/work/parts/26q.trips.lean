/-! TRIPS: of each set of hedges the fewest minutes, in both -/
def FARi : Int := 1000000
/-- the reference's cell of a set and a corner -/
def Dc (s : sm_S) (X c : Nat) : Int := (s.1 98 (10 * X + c)).toInt
def bN (X : Nat) : Nat → Bool := fun i => X.testBit i
def pN (X : Nat) : Nat := cnt (bN X) 14
/-- a walk over X from x can end at c alone -/
def PAR (s : sm_S) (x X c : Nat) : Prop := ∀ v : Nat, par (ta s) (tb s) (bN X) v (nH s) = (decide (v = x) ^^ decide (v = c))
theorem PAR.uni {s : sm_S} {x X c d : Nat} (h1 : PAR s x X c) (h2 : PAR s x X d) : c = d := by
  have := (h1 c).symm.trans (h2 c)
  by_cases q : c = d
  · exact q
  · rw [decide_eq_true (p := c = c) rfl, decide_eq_false q] at this
    cases hq : decide (c = x) <;> rw [hq] at this <;> exact absurd this (by decide)
theorem bN_or (X h : Nat) : bN (X ||| 2 ^ h) = fun i => bN X i || decide (h = i) := by
  funext i
  unfold bN
  rw [Nat.testBit_or, Nat.testBit_two_pow]
theorem rm_or {X h : Nat} (hX : bN X h = false) : rm (bN (X ||| 2 ^ h)) h = bN X := by
  funext i
  rw [bN_or]
  show ((bN X i || decide (h = i)) && !decide (i = h)) = bN X i
  by_cases q : i = h
  · subst q; rw [hX]; simp
  · rw [decide_eq_false q, decide_eq_false (fun z => q z.symm)]; simp
theorem PAR.next {s : sm_S} {x X c h : Nat} (hh : h < nH s) (hX : bN X h = false) (hc : ta s h = c ∨ tb s h = c) (hP : PAR s x X c) : PAR s x (X ||| 2 ^ h) (oe (ta s) (tb s) h c) := by
  intro v
  have hS : bN (X ||| 2 ^ h) h = true := by rw [bN_or]; simp
  have key := par_next (a := ta s) (b := tb s) (n := nH s) (S := bN (X ||| 2 ^ h)) (c := c) (v := v) hh hS hc
  rw [rm_or hX, hP v] at key
  revert key
  cases decide (v = x) <;> cases decide (v = c) <;> cases decide (v = oe (ta s) (tb s) h c) <;> cases par (ta s) (tb s) (bN (X ||| 2 ^ h)) v (nH s) <;> decide
theorem pN_or {X h : Nat} (hh : h < 14) (hX : bN X h = false) : pN (X ||| 2 ^ h) = pN X + 1 := by
  have hS : bN (X ||| 2 ^ h) h = true := by rw [bN_or]; simp
  have := cnt_del (p := bN (X ||| 2 ^ h)) (q := bN X) (n := 14) h hh hS (fun k hk => by
    have := congrFun (rm_or hX) k
    rw [← this]; rfl)
  unfold pN
  omega
theorem pN_le (X : Nat) : pN X ≤ 14 := cnt_le _ _
/-- what holds between the class's row and the reference's -/
def RELt (s0 : sm_S) (x : Nat) (lim : Int) (m s : sm_S) : Prop := (∀ X : Nat, X < 2 ^ nH s0 → ∀ c : Nat, c < nC s0 → Dc s X c = FARi ∨ (0 ≤ Dc s X c ∧ Dc s X c ≤ 29 * ((pN X : Nat) : Int) ∧ PAR s0 x X c)) ∧ (∀ X : Nat, X < 2 ^ nH s0 → ((ln1 m X).toInt = 65535 ∧ ∀ c : Nat, c < nC s0 → lim < Dc s X c) ∨ ∃ c : Nat, c < nC s0 ∧ (ln1 m X).toInt = 16 * Dc s X c + (c : Int) ∧ Dc s X c ≤ lim) ∧ (x < nC s0 ∧ Dc s 0 x = 0)
theorem RELt.uni {s0 : sm_S} {x : Nat} {lim : Int} {m s : sm_S} (h : RELt s0 x lim m s) {X c d : Nat} (hX : X < 2 ^ nH s0) (hc : c < nC s0) (hd : d < nC s0) (h1 : Dc s X c ≠ FARi) (h2 : Dc s X d ≠ FARi) : c = d := by
  rcases h.1 X hX c hc with q | ⟨-, -, q⟩
  · exact absurd q h1
  · rcases h.1 X hX d hd with z | ⟨-, -, z⟩
    · exact absurd z h2
    · exact q.uni z
/-- one relaxation in the reference -/
def UPD (s s' : sm_S) (L c : Nat) (w : Int) : Prop := ∀ X d : Nat, d < 10 → Dc s' X d = if X = L ∧ d = c then (if w < Dc s L c then w else Dc s L c) else Dc s X d
theorem RELt.ref {s0 : sm_S} {x : Nat} {lim : Int} {m s s' : sm_S} (hl : lim ≤ 9999) (hC10 : nC s0 ≤ 10) (h : RELt s0 x lim m s) {L c : Nat} {w : Int} (hL : L < 2 ^ nH s0) (hc : c < nC s0) (w0 : 0 ≤ w) (w1 : w ≤ 29 * ((pN L : Nat) : Int)) (hP : PAR s0 x L c) (hw : lim < w) (hu : UPD s s' L c w) : RELt s0 x lim m s' := by
  have hp := pN_le L
  refine ⟨fun X hX d hd => ?_, fun X hX => ?_, ?_⟩
  · rw [hu X d (by omega)]
    by_cases q : X = L ∧ d = c
    · obtain ⟨rfl, rfl⟩ := q
      rw [if_pos ⟨rfl, rfl⟩]
      refine Or.inr ?_
      rcases h.1 X hX d hd with z | ⟨z1, z2, -⟩
      · rw [z, if_pos (by unfold FARi; omega)]
        exact ⟨w0, w1, hP⟩
      · split
        · exact ⟨w0, w1, hP⟩
        · exact ⟨z1, z2, hP⟩
    · rw [if_neg q]; exact h.1 X hX d hd
  · rcases h.2.1 X hX with ⟨z1, z2⟩ | ⟨d, hd, z1, z2⟩
    · refine Or.inl ⟨z1, fun d hd => ?_⟩
      rw [hu X d (by omega)]
      by_cases q : X = L ∧ d = c
      · obtain ⟨rfl, rfl⟩ := q
        rw [if_pos ⟨rfl, rfl⟩]
        have := z2 d hd
        split <;> omega
      · rw [if_neg q]; exact z2 d hd
    · refine Or.inr ⟨d, hd, ?_⟩
      have e : Dc s' X d = Dc s X d := by
        rw [hu X d (by omega)]
        by_cases q : X = L ∧ d = c
        · obtain ⟨rfl, rfl⟩ := q
          rw [if_pos ⟨rfl, rfl⟩, if_neg (by omega)]
        · rw [if_neg q]
      rw [e]; exact ⟨z1, z2⟩
  · refine ⟨h.2.2.1, ?_⟩
    rw [hu 0 x (by have := h.2.2.1; omega)]
    by_cases q : 0 = L ∧ x = c
    · obtain ⟨rfl, rfl⟩ := q
      rw [if_pos ⟨rfl, rfl⟩, h.2.2.2, if_neg (by omega)]
    · rw [if_neg q]; exact h.2.2.2
theorem RELt.both {s0 : sm_S} {x : Nat} {lim : Int} {m m' s s' : sm_S} (hl : lim ≤ 9999) (hC10 : nC s0 ≤ 10) (h : RELt s0 x lim m s) {L c : Nat} {w : Int} (hL : L < 2 ^ nH s0) (hc : c < nC s0) (w0 : 0 ≤ w) (w1 : w ≤ 29 * ((pN L : Nat) : Int)) (hP : PAR s0 x L c) (hw : w ≤ lim) (hu : UPD s s' L c w) (hm : ∀ X : Nat, (ln1 m' X).toInt = if X = L ∧ 16 * w + (c : Int) < (ln1 m L).toInt then 16 * w + (c : Int) else (ln1 m X).toInt) : RELt s0 x lim m' s' := by
  have hp := pN_le L
  refine ⟨fun X hX d hd => ?_, fun X hX => ?_, ?_⟩
  · rw [hu X d (by omega)]
    by_cases q : X = L ∧ d = c
    · obtain ⟨rfl, rfl⟩ := q
      rw [if_pos ⟨rfl, rfl⟩]
      refine Or.inr ?_
      rcases h.1 X hX d hd with z | ⟨z1, z2, -⟩
      · rw [z, if_pos (by unfold FARi; omega)]
        exact ⟨w0, w1, hP⟩
      · split
        · exact ⟨w0, w1, hP⟩
        · exact ⟨z1, z2, hP⟩
    · rw [if_neg q]; exact h.1 X hX d hd
  · by_cases qX : X = L
    · subst qX
      rw [hm X]
      rcases h.2.1 X hX with ⟨z1, z2⟩ | ⟨d, hd, z1, z2⟩
      · have zc := z2 c hc
        refine Or.inr ⟨c, hc, ?_⟩
        have hA : X = X ∧ c = c := ⟨rfl, rfl⟩
        have hB : X = X ∧ 16 * w + (c : Int) < (ln1 m X).toInt := ⟨rfl, by omega⟩
        have hD : w < Dc s X c := by omega
        rw [if_pos hB, hu X c (by omega), if_pos hA, if_pos hD]
        exact ⟨rfl, hw⟩
      · -- the same corner
        have hdc : d = c := by
          rcases h.1 X hX d hd with z | ⟨-, -, z⟩
          · unfold FARi at z; omega
          · exact z.uni hP
        subst hdc
        refine Or.inr ⟨d, hd, ?_⟩
        have hA : X = X ∧ d = d := ⟨rfl, rfl⟩
        rw [hu X d (by omega), if_pos hA]
        by_cases q : w < Dc s X d
        · have hB : X = X ∧ 16 * w + (d : Int) < (ln1 m X).toInt := ⟨rfl, by omega⟩
          rw [if_pos q, if_pos hB]; exact ⟨rfl, hw⟩
        · have hB : ¬ (X = X ∧ 16 * w + (d : Int) < (ln1 m X).toInt) := fun z => by have := z.2; omega
          rw [if_neg q, if_neg hB]; exact ⟨z1, z2⟩
    · have e : ∀ d : Nat, d < 10 → Dc s' X d = Dc s X d := fun d hd => by rw [hu X d hd, if_neg (fun z => qX z.1)]
      rw [hm X, if_neg (fun z => qX z.1)]
      rcases h.2.1 X hX with ⟨z1, z2⟩ | ⟨d, hd, z1, z2⟩
      · exact Or.inl ⟨z1, fun d hd => by rw [e d (by omega)]; exact z2 d hd⟩
      · exact Or.inr ⟨d, hd, by rw [e d (by omega)]; exact z1, by rw [e d (by omega)]; exact z2⟩
  · refine ⟨h.2.2.1, ?_⟩
    rw [hu 0 x (by have := h.2.2.1; omega)]
    by_cases q : 0 = L ∧ x = c
    · obtain ⟨rfl, rfl⟩ := q
      rw [if_pos ⟨rfl, rfl⟩, h.2.2.2, if_neg (by omega)]
    · rw [if_neg q]; exact h.2.2.2
/-- what stays while the sets are gone through -/
def TB (mB sB m s : sm_S) : Prop := m.1 = mB.1 ∧ Fr [(98, 999)] sB s ∧ zI s
theorem zI.of1 {m m' : sm_S} (h : m'.1 = m.1) (hI : zI m) : zI m' := by
  unfold zI zP zH zK at hI ⊢
  rw [h]; exact hI
theorem Fr.of1 {m m' : sm_S} (h : m'.1 = m.1) : Fr [] m m' := fun a k _ => by rw [h]
theorem TB.L {mB sB m s : sm_S} (hL : XL mB sB) (h : TB mB sB m s) : XL m s := hL.fr (Fr.of1 h.1) h.2.1 rfl
theorem TB.C {mB sB m s : sm_S} (hC : zC sB) (h : TB mB sB m s) : zC s := hC.fr h.2.1 rfl
theorem TB.t {mB sB m s : sm_S} (h : TB mB sB m s) : ta s = ta sB ∧ tb s = tb sB ∧ nH s = nH sB ∧ nC s = nC sB := by
  obtain ⟨a, b, c⟩ := t_same (m := sB) (m' := s) (fun j => h.2.1 76 j rfl) (fun j => h.2.1 77 j rfl) (h.2.1 72 6 rfl)
  refine ⟨a, b, c, ?_⟩
  unfold nC
  rw [h.2.1 72 3 rfl]
/-- a step over hedge h from corner c, in both -/
theorem st_step {m s : sm_S} (hL : XL m s) (hI : zI m) (hJ : zI s) (hC : zC s) {h c : Int32} (h0 : 0 ≤ h.toInt) (h1 : h.toInt < (m.1 3 1).toInt) (c0 : 0 ≤ c.toInt) (hc : m.1 6 h.toNatClampNeg = c ∨ m.1 7 h.toNatClampNeg = c) : (ta s h.toNatClampNeg = c.toNatClampNeg ∨ tb s h.toNatClampNeg = c.toNatClampNeg) ∧ (otE m h c).toNatClampNeg = oe (ta s) (tb s) h.toNatClampNeg c.toNatClampNeg ∧ (otE m h c).toNatClampNeg < nC s ∧ 1 ≤ (mnF m h c).toInt ∧ (mnF m h c).toInt ≤ 29 := by
  have et := a_tn h0
  have e31 := hL.hedge
  obtain ⟨eH, eC, bH, bC⟩ := t_n hJ
  obtain ⟨a1, b1, a2, b2, ab⟩ := t_ends hJ hC (h := h.toNatClampNeg) (by omega)
  obtain ⟨q1, q2, q3, -, -, -, q7, -⟩ := hL.row h0 h1
  have hle := zI.le hJ
  have p78 := zI.pf78 hJ h h0 (by omega)
  have p82 := zI.pf82 hJ h h0 (by omega)
  have b78 : (tB 78 h.toNatClampNeg).1 ≤ (s.1 78 h.toNatClampNeg).toInt ∧ (s.1 78 h.toNatClampNeg).toInt ≤ (tB 78 h.toNatClampNeg).2 := hJ.1 78 h.toNatClampNeg
  have b78' : (s.1 78 h.toNatClampNeg).toInt ≤ 20 := b78.2
  have b82 : (tB 82 h.toNatClampNeg).1 ≤ (s.1 82 h.toNatClampNeg).toInt ∧ (s.1 82 h.toNatClampNeg).toInt ≤ (tB 82 h.toNatClampNeg).2 := hJ.1 82 h.toNatClampNeg
  have b82' : (s.1 82 h.toNatClampNeg).toInt ≤ 9 := b82.2
  have ea : ta s h.toNatClampNeg = (s.1 76 h.toNatClampNeg).toNatClampNeg := rfl
  have eb : tb s h.toNatClampNeg = (s.1 77 h.toNatClampNeg).toNatClampNeg := rfl
  rw [q1, q2] at hc
  have tc := a_tn c0
  have hor : ta s h.toNatClampNeg = c.toNatClampNeg ∨ tb s h.toNatClampNeg = c.toNatClampNeg := by
    rcases hc with z | z
    · exact Or.inl (by rw [ea, z])
    · exact Or.inr (by rw [eb, z])
  refine ⟨hor, ?_, ?_, ?_⟩
  · unfold otE oe
    rw [q1, q2]
    by_cases z : s.1 76 h.toNatClampNeg = c
    · rw [if_pos z, if_pos (by rw [ea, z])]; rfl
    · rw [if_neg z, if_neg (fun y => z (eqI.mpr (by omega)))]; rfl
  · unfold otE
    rw [q1, q2]
    split
    · rw [← eb]; exact b2
    · rw [← ea]; exact a2
  · unfold mnF
    rw [q1, q3, q7]
    split
    · omega
    · rw [a_add (by omega) (by omega)]; omega
theorem UPD.w {s : sm_S} {k : Int32} {L c : Nat} {v : Int32} {w : Int} (hc : c < 10) (hk : k.toNatClampNeg = 10 * L + c) (hv : v.toInt = if w < Dc s L c then w else Dc s L c) : UPD s (sm_w1 s 98 k.toNatClampNeg v) L c w := by
  intro X d hd
  unfold Dc
  rw [hk]
  by_cases q : X = L ∧ d = c
  · obtain ⟨rfl, rfl⟩ := q
    rw [if_pos ⟨rfl, rfl⟩, r_hit]; exact hv
  · rw [if_neg q, r_place (fun z => q ⟨by omega, by omega⟩)]
theorem bit_or {X h : Int32} (hX : 0 ≤ X.toInt) (hX2 : X.toInt < 16384) (h0 : 0 ≤ h.toInt) (h1 : h.toInt < 14) : (X ||| ((1 : Int32) <<< (h &&& 31))).toNatClampNeg = X.toNatClampNeg ||| 2 ^ h.toNatClampNeg ∧ 0 ≤ (X ||| ((1 : Int32) <<< (h &&& 31))).toInt ∧ (X ||| ((1 : Int32) <<< (h &&& 31))).toInt < 16384 := by
  have eh := a_tn h0
  have eX := a_tn hX
  have e1 : ((1 : Int32) <<< (h &&& 31)).toInt = ((2 ^ h.toNatClampNeg : Nat) : Int) := a_shlE h0 (by omega)
  have hb : 2 ^ h.toNatClampNeg ≤ 2 ^ 13 := Nat.pow_le_pow_right (by decide) (by omega)
  have h13 : (2 : Nat) ^ 13 = 8192 := by decide
  have h14 : (2 : Nat) ^ 14 = 16384 := by decide
  rw [h13] at hb
  generalize hP : 2 ^ h.toNatClampNeg = P at e1 hb ⊢
  have b := a_or (x := X) (y := (1 : Int32) <<< (h &&& 31)) 14 (p := 16384) (by decide) (by decide) hX hX2 (by omega) (by omega)
  have e2 : ((1 : Int32) <<< (h &&& 31)).toNatClampNeg = P := by
    have := a_tn (x := (1 : Int32) <<< (h &&& 31)) (by omega)
    omega
  have e3 : X ||| ((1 : Int32) <<< (h &&& 31)) = nI (X.toNatClampNeg ||| P) := by
    conv => lhs; rw [a_nI hX, a_nI (x := (1 : Int32) <<< (h &&& 31)) (by omega), e2]
    exact n_or _ _
  have hx14 : X.toNatClampNeg < 2 ^ 14 := by omega
  have hp14 : P < 2 ^ 14 := by omega
  have hlt : X.toNatClampNeg ||| P < 2 ^ 14 := Nat.or_lt_two_pow hx14 hp14
  rw [h14] at hlt
  have e4 : (nI (X.toNatClampNeg ||| P)).toInt = ((X.toNatClampNeg ||| P : Nat) : Int) := nI_toInt (by omega)
  refine ⟨?_, b.1, b.2⟩
  rw [e3]
  have := a_tn (x := nI (X.toNatClampNeg ||| P)) (by omega)
  omega
theorem bt_N {X : Int32} (hX : 0 ≤ X.toInt) {i : Nat} (hi : i < 32) : bt X i = bN X.toNatClampNeg i := by
  conv => lhs; rw [a_nI hX]
  exact b_nat _ _ hi
