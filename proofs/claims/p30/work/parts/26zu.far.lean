/-! THE TABLE OF WAYS: what a loop's cells are, of numbers at most M -/
def gS (s : sm_S) : Nat → Bool := fun h => !bt (s.1 72 14) h
def gW1 (s : sm_S) : Nat → Int := fun h => (s.1 78 h).toInt
def gW2 (s : sm_S) : Nat → Int := fun h => (s.1 78 h).toInt + (s.1 82 h).toInt
def gDI (s : sm_S) : Nat → Nat → Nat → Int := dI (ta s) (tb s) (gS s) (gW1 s) (gW2 s)
def gD (s : sm_S) : Nat → Nat → Int := dF (ta s) (tb s) (nH s) (nC s) (gS s) (gW1 s) (gW2 s)
theorem gHY {s : sm_S} (hJ : zI s) (hC : zC s) : HYf (ta s) (tb s) (nH s) (nC s) (gS s) (gW1 s) (gW2 s) := by
  intro h hh _
  obtain ⟨eH, eC, bH, bC⟩ := t_n hJ
  obtain ⟨a1, b1, a2, b2, ab⟩ := t_ends hJ hC hh
  have hle := zI.le hJ
  have q := zI.pfj hJ h (by omega)
  have b78 : (-1 : Int) ≤ (s.1 78 h).toInt ∧ (s.1 78 h).toInt ≤ 20 := hJ.1 78 h
  have b82 : (-1 : Int) ≤ (s.1 82 h).toInt ∧ (s.1 82 h).toInt ≤ 9 := hJ.1 82 h
  refine ⟨a2, b2, ab, ?_, ?_⟩
  · show 1 ≤ (s.1 78 h).toInt ∧ (s.1 78 h).toInt ≤ 29
    omega
  · show 1 ≤ (s.1 78 h).toInt + (s.1 82 h).toInt ∧ (s.1 78 h).toInt + (s.1 82 h).toInt ≤ 29
    omega
def INd (cell : Nat → Nat → Int) (d : Nat → Nat → Int) (M : Int) (C : Nat) : Prop := ∀ x y, x < C → y < C → cell x y = min M (d x y)
def IN0 (cell : Nat → Nat → Int) (M : Int) (C v1 v2 : Nat) : Prop := ∀ x y, x < C → y < C → (x < v1 ∨ (x = v1 ∧ y < v2)) → cell x y = min M (if x = y then 0 else 1000000)
def INf (cell : Nat → Nat → Int) (d : Nat → Nat → Int) (M : Int) (C k v2 v3 : Nat) : Prop := ∀ x y, x < C → y < C → cell x y = min M (if x < v2 ∨ (x = v2 ∧ y < v3) then fL d (k + 1) x y else fL d k x y)
theorem IN0.step {cell cell' : Nat → Nat → Int} {M : Int} {C v1 v2 : Nat} (h : IN0 cell M C v1 v2) (h2 : cell' v1 v2 = min M (if v1 = v2 then 0 else 1000000)) (h3 : ∀ x y, y < C → ¬ (x = v1 ∧ y = v2) → cell' x y = cell x y) : IN0 cell' M C v1 (v2 + 1) := by
  intro x y hx hy hp
  by_cases q : x = v1 ∧ y = v2
  · rw [q.1, q.2, h2]
  · rw [h3 x y hy q]
    refine h x y hx hy ?_
    rcases hp with hp | ⟨p1, p2⟩
    · exact Or.inl hp
    · exact Or.inr ⟨p1, by
        have : y ≠ v2 := fun z => q ⟨p1, z⟩
        omega⟩
theorem IN0.row {cell : Nat → Nat → Int} {M : Int} {C v1 v2 : Nat} (h : IN0 cell M C v1 v2) (h2 : C ≤ v2) : IN0 cell M C (v1 + 1) 0 := by
  intro x y hx hy hp
  refine h x y hx hy ?_
  rcases hp with hp | ⟨-, hp⟩
  · by_cases q : x = v1
    · exact Or.inr ⟨q, by omega⟩
    · exact Or.inl (by omega)
  · exact absurd hp (Nat.not_lt_zero _)
theorem IN0.all {cell : Nat → Nat → Int} {M : Int} {C v1 v2 : Nat} {a b : Nat → Nat} {S : Nat → Bool} {w1 w2 : Nat → Int} (h : IN0 cell M C v1 v2) (h2 : C ≤ v1) : INd cell (dI a b S w1 w2 0) M C := fun x y hx hy => h x y hx hy (Or.inl (by omega))
theorem INd.gate {cell : Nat → Nat → Int} {M : Int} {C h : Nat} {a b : Nat → Nat} {S : Nat → Bool} {w1 w2 : Nat → Int} (i : INd cell (dI a b S w1 w2 h) M C) (hS : S h = false) : INd cell (dI a b S w1 w2 (h + 1)) M C := by
  intro x y hx hy
  show cell x y = min M (if S h = true then _ else dI a b S w1 w2 h x y)
  rw [if_neg (by rw [hS]; decide)]
  exact i x y hx hy
theorem INd.step {cell c1 c2 : Nat → Nat → Int} {M : Int} {C h : Nat} {a b : Nat → Nat} {S : Nat → Bool} {w1 w2 : Nat → Int} (i : INd cell (dI a b S w1 w2 h) M C) (hS : S h = true) (hab : a h ≠ b h) (ha : a h < C) (hb : b h < C) (e1 : c1 (a h) (b h) = min (cell (a h) (b h)) (w1 h)) (f1 : ∀ x y, y < C → ¬ (x = a h ∧ y = b h) → c1 x y = cell x y) (e2 : c2 (b h) (a h) = min (c1 (b h) (a h)) (w2 h)) (f2 : ∀ x y, y < C → ¬ (x = b h ∧ y = a h) → c2 x y = c1 x y) : INd c2 (dI a b S w1 w2 (h + 1)) M C := by
  intro x y hx hy
  show c2 x y = min M (if S h = true then (if x = a h ∧ y = b h then min (dI a b S w1 w2 h x y) (w1 h) else if x = b h ∧ y = a h then min (dI a b S w1 w2 h x y) (w2 h) else dI a b S w1 w2 h x y) else dI a b S w1 w2 h x y)
  rw [if_pos hS]
  by_cases q1 : x = a h ∧ y = b h
  · rw [if_pos q1, f2 x y hy (fun z => hab (q1.1.symm.trans z.1)), q1.1, q1.2, e1, i _ _ ha hb]
    omega
  · rw [if_neg q1]
    by_cases q2 : x = b h ∧ y = a h
    · rw [if_pos q2, q2.1, q2.2, e2, f1 _ _ ha (fun z => hab z.1.symm), i _ _ hb ha]
      omega
    · rw [if_neg q2, f2 x y hy q2, f1 x y hy q1]
      exact i x y hx hy
theorem INf.of {cell : Nat → Nat → Int} {d : Nat → Nat → Int} {M : Int} {C k : Nat} (h : INd cell (fL d k) M C) : INf cell d M C k 0 0 := by
  intro x y hx hy
  rw [if_neg (by omega)]
  exact h x y hx hy
theorem INf.row {cell : Nat → Nat → Int} {d : Nat → Nat → Int} {M : Int} {C k v2 v3 : Nat} (h : INf cell d M C k v2 v3) (h2 : C ≤ v3) : INf cell d M C k (v2 + 1) 0 := by
  intro x y hx hy
  rw [h x y hx hy]
  by_cases q : x < v2 ∨ (x = v2 ∧ y < v3)
  · rw [if_pos q, if_pos (by omega)]
  · rw [if_neg q, if_neg (by omega)]
theorem INf.all {cell : Nat → Nat → Int} {d : Nat → Nat → Int} {M : Int} {C k v2 v3 : Nat} (h : INf cell d M C k v2 v3) (h2 : C ≤ v2) : INd cell (fL d (k + 1)) M C := by
  intro x y hx hy
  rw [h x y hx hy, if_pos (by omega)]
theorem INf.step {cell cell' : Nat → Nat → Int} {d : Nat → Nat → Int} {M : Int} {C k v2 v3 : Nat} (hd : ∀ x y, (0 ≤ d x y ∧ d x y ≤ 1000000) ∧ (x ≠ y → 1 ≤ d x y) ∧ (x = y → d x y = 0)) (hM : 0 ≤ M) (hk : k < C) (h2 : v2 < C) (h3 : v3 < C) (h : INf cell d M C k v2 v3) (e : cell' v2 v3 = min (cell v2 v3) (cell v2 k + cell k v3)) (f : ∀ x y, y < C → ¬ (x = v2 ∧ y = v3) → cell' x y = cell x y) : INf cell' d M C k v2 (v3 + 1) := by
  intro x y hx hy
  have ekk := (fL_b hd k k k).2.2 rfl
  have r1 : ∀ x : Nat, fL d (k + 1) x k = fL d k x k := fun x => by
    have := (fL_b hd k x k).1
    rw [fL_s, ekk]; omega
  have r2 : ∀ y : Nat, fL d (k + 1) k y = fL d k k y := fun y => by
    have := (fL_b hd k k y).1
    rw [fL_s, ekk]; omega
  by_cases q : x = v2 ∧ y = v3
  · obtain ⟨rfl, rfl⟩ := q
    have c1 := h x y h2 h3
    have c2 := h x k h2 hk
    have c3 := h k y hk h3
    rw [if_neg (by omega)] at c1
    rw [r1, ite_self] at c2
    rw [r2, ite_self] at c3
    have b1 := (fL_b hd k x k).1
    have b2 := (fL_b hd k k y).1
    rw [e, if_pos (by omega), fL_s]
    omega
  · rw [f x y hy q, h x y hx hy]
    by_cases z : x < v2 ∨ (x = v2 ∧ y < v3)
    · rw [if_pos z, if_pos (by omega)]
    · rw [if_neg z, if_neg (by omega)]
/-! the reference -/
def fcl (m : sm_S) (a b : Nat) : Int := (m.1 99 (10 * a + b)).toInt
theorem fcl_w {m : sm_S} {a b : Nat} {v : Int32} (hb : b < 10) : fcl (sm_w1 m 99 (10 * a + b) v) a b = v.toInt ∧ ∀ x y, y < 10 → ¬ (x = a ∧ y = b) → fcl (sm_w1 m 99 (10 * a + b) v) x y = fcl m x y := by
  refine ⟨congrArg Int32.toInt r_hit, fun x y hy hn => congrArg Int32.toInt (r_place (fun z => hn (by omega)))⟩
theorem i10 {a b : Int32} (ha : 0 ≤ a.toInt ∧ a.toInt ≤ 9) (hb : 0 ≤ b.toInt ∧ b.toInt ≤ 9) : (((10 : Int32) * a) + b).toInt = 10 * a.toInt + b.toInt ∧ (((10 : Int32) * a) + b).toNatClampNeg = 10 * a.toNatClampNeg + b.toNatClampNeg := by
  have e := g_idx (X := a) (c := b) ha.1 (by omega) hb.1 hb.2
  have t1 := a_tn ha.1
  have t2 := a_tn hb.1
  have t3 := a_tn (x := ((10 : Int32) * a) + b) (by omega)
  exact ⟨e, by omega⟩
theorem fcl_b {m : sm_S} (hI : zI m) (a b : Nat) : 0 ≤ fcl m a b ∧ fcl m a b ≤ 1000000 := hI.1 99 _
theorem e_shr {m : sm_S} (hI : zI m) {a b v : Int32} (ha : 0 ≤ a.toInt ∧ a.toInt ≤ 9) (hb : 0 ≤ b.toInt ∧ b.toInt ≤ 9) (hv : 0 ≤ v.toInt) : Sf (fun r => zI r ∧ Fr [(99, 999)] m r ∧ fcl r a.toNatClampNeg b.toNatClampNeg = min (fcl m a.toNatClampNeg b.toNatClampNeg) v.toInt ∧ ∀ x y, y < 10 → ¬ (x = a.toNatClampNeg ∧ y = b.toNatClampNeg) → fcl r x y = fcl m x y) (fX12_shortens a b v m) := by
  obtain ⟨e1, e2⟩ := i10 ha hb
  have tb := a_tn hb.1
  have b99 := fcl_b hI a.toNatClampNeg b.toNatClampNeg
  unfold fX12_shortens
  refine s_ix (by omega) (s_ix (by omega) (s_ret ?_))
  rw [e2]
  have q := a_ilt (x := v) (y := m.1 99 (10 * a.toNatClampNeg + b.toNatClampNeg)) (a := v) (b := m.1 99 (10 * a.toNatClampNeg + b.toNatClampNeg))
  have ef : fcl m a.toNatClampNeg b.toNatClampNeg = (m.1 99 (10 * a.toNatClampNeg + b.toNatClampNeg)).toInt := rfl
  obtain ⟨w1, w2⟩ := fcl_w (m := m) (a := a.toNatClampNeg) (b := b.toNatClampNeg) (v := if v < (m.1 99 (10 * a.toNatClampNeg + b.toNatClampNeg)) then v else (m.1 99 (10 * a.toNatClampNeg + b.toNatClampNeg))) (by omega)
  refine ⟨zI.w hI rfl (show 0 ≤ _ ∧ _ ≤ 1000000 by omega), Fr.w Fr.refl rfl, ?_, w2⟩
  rw [w1]; omega
theorem rm_158 {s0 : sm_S} (hJ0 : zI s0) (hC0 : zC s0) {Q : sm_S → Prop} (k148 : Int32 → Int32 → sm_S → Option sm_S) (k138 : Int32 → sm_S → Option sm_S) (v1 v2 : Int32) (h1 : 0 ≤ v1.toInt ∧ v1.toInt < (s0.1 72 3).toInt) (h2 : 0 ≤ v2.toInt ∧ v2.toInt < (s0.1 72 3).toInt) (hk : ∀ m, zI m → Fr [(99, 999)] s0 m → INf (fcl m) (gDI s0 (nH s0)) 1000000 (nC s0) v1.toNatClampNeg (v2.toNatClampNeg + 1) 0 → Sf Q (k148 v1 (v2 + (1 : Int32)) m)) : ∀ (n : Nat) (v3 : Int32) (m : sm_S), 0 ≤ v3.toInt → v3.toInt ≤ (s0.1 72 3).toInt → (s0.1 72 3).toInt - v3.toInt < (n : Int) → zI m → Fr [(99, 999)] s0 m → INf (fcl m) (gDI s0 (nH s0)) 1000000 (nC s0) v1.toNatClampNeg v2.toNatClampNeg v3.toNatClampNeg → Sf Q (fX12_measures_158 k148 k138 n v1 v2 v3 m) := by
  obtain ⟨eH, eC, bH, bC⟩ := t_n hJ0
  have hd : ∀ x y, (0 ≤ gDI s0 (nH s0) x y ∧ gDI s0 (nH s0) x y ≤ 1000000) ∧ (x ≠ y → 1 ≤ gDI s0 (nH s0) x y) ∧ (x = y → gDI s0 (nH s0) x y = 0) := fun x y => dI_b (gHY hJ0 hC0) _ x y (Nat.le_refl _)
  have t1 := a_tn h1.1
  have t2 := a_tn h2.1
  intro n
  induction n with
  | zero => intro v3 m h0 hl hn; have hz : ((0 : Nat) : Int) = 0 := rfl; omega
  | succ n ih =>
    intro v3 m h0 hl hn hI hF hV
    have hnn : ((n + 1 : Nat) : Int) = (n : Int) + 1 := by omega
    have t3 := a_tn h0
    have e3 : m.1 72 3 = s0.1 72 3 := hF 72 3 rfl
    unfold fX12_measures_158
    rw [e3]
    refine s_le (fun g => hk m hI hF (hV.row (by omega))) (fun g => ?_)
    obtain ⟨p1, q1⟩ := i10 (a := v2) (b := v1) (by omega) (by omega)
    obtain ⟨p2, q2⟩ := i10 (a := v1) (b := v3) (by omega) (by omega)
    refine s_ix (by omega) (s_ix (by omega) ?_)
    have ba := fcl_b hI v2.toNatClampNeg v1.toNatClampNeg
    have bb := fcl_b hI v1.toNatClampNeg v3.toNatClampNeg
    rw [q1, q2]
    have es : ((m.1 99 (10 * v2.toNatClampNeg + v1.toNatClampNeg)) + (m.1 99 (10 * v1.toNatClampNeg + v3.toNatClampNeg))).toInt = fcl m v2.toNatClampNeg v1.toNatClampNeg + fcl m v1.toNatClampNeg v3.toNatClampNeg := by
      unfold fcl at ba bb ⊢
      exact a_add (by omega) (by omega)
    refine s_bd (e_shr hI (a := v2) (b := v3) (by omega) (by omega) (by omega)) (fun m4 h4 => ?_)
    obtain ⟨i4, F4, c1, c2⟩ := h4
    have ev : (v3 + (1 : Int32)).toInt = v3.toInt + 1 := a_addl L1 (by omega) (by omega)
    have hs3 : (v3 + (1 : Int32)).toNatClampNeg = v3.toNatClampNeg + 1 := by
      have := a_tn (x := v3 + (1 : Int32)) (by omega)
      omega
    refine ih (v3 + (1 : Int32)) m4 (by omega) (by omega) (by omega) i4 (Fr.trans hF F4 rfl) ?_
    rw [hs3]
    exact INf.step hd (by decide) (by omega) (by omega) (by omega) hV (by rw [c1, es]) (fun x y hy hn => c2 x y (by omega) hn)
theorem rm_148 {s0 : sm_S} (hJ0 : zI s0) (hC0 : zC s0) {Q : sm_S → Prop} (k138 : Int32 → sm_S → Option sm_S) (v1 : Int32) (h1 : 0 ≤ v1.toInt ∧ v1.toInt < (s0.1 72 3).toInt) (hk : ∀ m, zI m → Fr [(99, 999)] s0 m → INd (fcl m) (fL (gDI s0 (nH s0)) (v1.toNatClampNeg + 1)) 1000000 (nC s0) → Sf Q (k138 (v1 + (1 : Int32)) m)) : ∀ (n : Nat) (v2 : Int32) (m : sm_S), 0 ≤ v2.toInt → v2.toInt ≤ (s0.1 72 3).toInt → (s0.1 72 3).toInt - v2.toInt < (n : Int) → zI m → Fr [(99, 999)] s0 m → INf (fcl m) (gDI s0 (nH s0)) 1000000 (nC s0) v1.toNatClampNeg v2.toNatClampNeg 0 → Sf Q (fX12_measures_148 k138 n v1 v2 m) := by
  have l0 := L0
  have hfu := fuE
  have z0 : (0 : Int32).toNatClampNeg = 0 := by decide
  obtain ⟨eH, eC, bH, bC⟩ := t_n hJ0
  intro n
  induction n with
  | zero => intro v2 m h0 hl hn; have hz : ((0 : Nat) : Int) = 0 := rfl; omega
  | succ n ih =>
    intro v2 m h0 hl hn hI hF hV
    have hnn : ((n + 1 : Nat) : Int) = (n : Int) + 1 := by omega
    have t2 := a_tn h0
    have e3 : m.1 72 3 = s0.1 72 3 := hF 72 3 rfl
    unfold fX12_measures_148
    rw [e3]
    refine s_le (fun g => hk m hI hF (hV.all (by omega))) (fun g => ?_)
    have ev : (v2 + (1 : Int32)).toInt = v2.toInt + 1 := a_addl L1 (by omega) (by omega)
    have hs2 : (v2 + (1 : Int32)).toNatClampNeg = v2.toNatClampNeg + 1 := by
      have := a_tn (x := v2 + (1 : Int32)) (by omega)
      omega
    exact rm_158 hJ0 hC0 _ k138 v1 v2 h1 (by omega) (fun m' hI' hF' hV' => ih (v2 + (1 : Int32)) m' (by omega) (by omega) (by omega) hI' hF' (by rw [hs2]; exact hV')) sm_fu (0 : Int32) m (by omega) (by omega) (by omega) hI hF (by rw [z0]; exact hV)
def FARq (s0 r : sm_S) : Prop := zI r ∧ Fr [(99, 999)] s0 r ∧ ∀ x y, x < nC s0 → y < nC s0 → fcl r x y = gD s0 x y
theorem rm_138 {s0 : sm_S} (hJ0 : zI s0) (hC0 : zC s0) : ∀ (n : Nat) (v1 : Int32) (m : sm_S), 0 ≤ v1.toInt → v1.toInt ≤ (s0.1 72 3).toInt → (s0.1 72 3).toInt - v1.toInt < (n : Int) → zI m → Fr [(99, 999)] s0 m → INd (fcl m) (fL (gDI s0 (nH s0)) v1.toNatClampNeg) 1000000 (nC s0) → Sf (FARq s0) (fX12_measures_138 n v1 m) := by
  have l0 := L0
  have hfu := fuE
  have z0 : (0 : Int32).toNatClampNeg = 0 := by decide
  obtain ⟨eH, eC, bH, bC⟩ := t_n hJ0
  intro n
  induction n with
  | zero => intro v1 m h0 hl hn; have hz : ((0 : Nat) : Int) = 0 := rfl; omega
  | succ n ih =>
    intro v1 m h0 hl hn hI hF hV
    have hnn : ((n + 1 : Nat) : Int) = (n : Int) + 1 := by omega
    have t1 := a_tn h0
    have e3 : m.1 72 3 = s0.1 72 3 := hF 72 3 rfl
    unfold fX12_measures_138
    rw [e3]
    refine s_le (fun g => s_ret ⟨hI, hF, fun x y hx hy => ?_⟩) (fun g => ?_)
    · rw [hV x y hx hy, show v1.toNatClampNeg = nC s0 by omega]
      have := (dF_b (gHY hJ0 hC0) x y).1.2
      show min 1000000 (dF (ta s0) (tb s0) (nH s0) (nC s0) (gS s0) (gW1 s0) (gW2 s0) x y) = dF (ta s0) (tb s0) (nH s0) (nC s0) (gS s0) (gW1 s0) (gW2 s0) x y
      omega
    · have ev : (v1 + (1 : Int32)).toInt = v1.toInt + 1 := a_addl L1 (by omega) (by omega)
      have hs1 : (v1 + (1 : Int32)).toNatClampNeg = v1.toNatClampNeg + 1 := by
        have := a_tn (x := v1 + (1 : Int32)) (by omega)
        omega
      exact rm_148 hJ0 hC0 _ v1 (by omega) (fun m' hI' hF' hV' => ih (v1 + (1 : Int32)) m' (by omega) (by omega) (by omega) hI' hF' (by rw [hs1]; exact hV')) sm_fu (0 : Int32) m (by omega) (by omega) (by omega) hI hF (by rw [z0]; exact INf.of hV)
theorem rm_57 {s0 : sm_S} (hJ0 : zI s0) (hC0 : zC s0) : ∀ (n : Nat) (v1 : Int32) (m : sm_S), 0 ≤ v1.toInt → v1.toInt ≤ (s0.1 72 6).toInt → (s0.1 72 6).toInt - v1.toInt < (n : Int) → zI m → Fr [(99, 999)] s0 m → INd (fcl m) (gDI s0 v1.toNatClampNeg) 1000000 (nC s0) → Sf (FARq s0) (fX12_measures_57 n v1 m) := by
  have l0 := L0
  have hfu := fuE
  have z0 : (0 : Int32).toNatClampNeg = 0 := by decide
  obtain ⟨eH, eC, bH, bC⟩ := t_n hJ0
  intro n
  induction n with
  | zero => intro v1 m h0 hl hn; have hz : ((0 : Nat) : Int) = 0 := rfl; omega
  | succ n ih =>
    intro v1 m h0 hl hn hI hF hV
    have hnn : ((n + 1 : Nat) : Int) = (n : Int) + 1 := by omega
    have t1 := a_tn h0
    have e6 : m.1 72 6 = s0.1 72 6 := hF 72 6 rfl
    have e14 : m.1 72 14 = s0.1 72 14 := hF 72 14 rfl
    unfold fX12_measures_57
    rw [e6, e14]
    refine s_le (fun g => ?_) (fun g => ?_)
    · refine rm_138 hJ0 hC0 sm_fu (0 : Int32) m (by omega) (by omega) (by omega) hI hF ?_
      rw [z0]
      rw [show v1.toNatClampNeg = nH s0 by omega] at hV
      exact hV
    · have ev : (v1 + (1 : Int32)).toInt = v1.toInt + 1 := a_addl L1 (by omega) (by omega)
      have hs1 : (v1 + (1 : Int32)).toNatClampNeg = v1.toNatClampNeg + 1 := by
        have := a_tn (x := v1 + (1 : Int32)) (by omega)
        omega
      have hv : v1.toNatClampNeg < nH s0 := by omega
      obtain ⟨a1, b1, a2, b2, ab⟩ := t_ends hJ0 hC0 hv
      refine s_bd (zX12_has2 (s0.1 72 14) v1 m (by omega)) (fun r6 h6 => ?_)
      refine s_eq (fun g2 => ?_) (fun g2 => ?_)
      · have hS : gS s0 v1.toNatClampNeg = true := by
          show (!bt (s0.1 72 14) v1.toNatClampNeg) = true
          rw [has_f h6 (by omega)]; rfl
        obtain ⟨c1, c2, c3, c4, c5⟩ := gHY hJ0 hC0 v1.toNatClampNeg hv hS
        have k76 : m.1 76 v1.toNatClampNeg = s0.1 76 v1.toNatClampNeg := hF 76 _ rfl
        have k77 : m.1 77 v1.toNatClampNeg = s0.1 77 v1.toNatClampNeg := hF 77 _ rfl
        have k78 : m.1 78 v1.toNatClampNeg = s0.1 78 v1.toNatClampNeg := hF 78 _ rfl
        have k82 : m.1 82 v1.toNatClampNeg = s0.1 82 v1.toNatClampNeg := hF 82 _ rfl
        have u1 : gW1 s0 v1.toNatClampNeg = (s0.1 78 v1.toNatClampNeg).toInt := rfl
        have u2 : gW2 s0 v1.toNatClampNeg = (s0.1 78 v1.toNatClampNeg).toInt + (s0.1 82 v1.toNatClampNeg).toInt := rfl
        have x14 : 0 ≤ v1.toInt ∧ v1.toInt < ((14 : Nat) : Int) := by omega
        have hne : (s0.1 76 v1.toNatClampNeg).toInt ≠ (s0.1 77 v1.toNatClampNeg).toInt := fun z => ab (by omega)
        have m1 := zX12_minutesFrom v1 (m.1 76 v1.toNatClampNeg) m (by rw [e6, k76]; omega) hI
        rw [k76, k78, k82] at m1
        refine s_ix x14 (s_ix x14 (s_ix x14 ?_))
        rw [k76, k77]
        refine s_bd m1 (fun r11 h11 => ?_)
        have v11 : r11.toInt = gW1 s0 v1.toNatClampNeg := by omega
        refine s_bd (e_shr hI (a := s0.1 76 v1.toNatClampNeg) (b := s0.1 77 v1.toNatClampNeg) (by omega) (by omega) (by omega)) (fun m13 h13 => ?_)
        obtain ⟨i13, F13, s1, s2⟩ := h13
        have F13' : Fr [(99, 999)] s0 m13 := Fr.trans hF F13 rfl
        have j76 : m13.1 76 v1.toNatClampNeg = s0.1 76 v1.toNatClampNeg := F13' 76 _ rfl
        have j77 : m13.1 77 v1.toNatClampNeg = s0.1 77 v1.toNatClampNeg := F13' 77 _ rfl
        have j78 : m13.1 78 v1.toNatClampNeg = s0.1 78 v1.toNatClampNeg := F13' 78 _ rfl
        have j82 : m13.1 82 v1.toNatClampNeg = s0.1 82 v1.toNatClampNeg := F13' 82 _ rfl
        have j6 : m13.1 72 6 = s0.1 72 6 := F13' 72 6 rfl
        have m2 := zX12_minutesFrom v1 (m13.1 77 v1.toNatClampNeg) m13 (by rw [j6, j77]; omega) i13
        rw [j76, j77, j78, j82] at m2
        refine s_ix x14 (s_ix x14 (s_ix x14 ?_))
        rw [j76, j77]
        refine s_bd m2 (fun r18 h18 => ?_)
        have v18 : r18.toInt = gW2 s0 v1.toNatClampNeg := by omega
        refine s_bd (e_shr i13 (a := s0.1 77 v1.toNatClampNeg) (b := s0.1 76 v1.toNatClampNeg) (by omega) (by omega) (by omega)) (fun m20 h20 => ?_)
        obtain ⟨i20, F20, s3, s4⟩ := h20
        refine ih (v1 + (1 : Int32)) m20 (by omega) (by omega) (by omega) i20 (Fr.trans F13' F20 rfl) ?_
        rw [hs1]
        rw [v11] at s1
        rw [v18] at s3
        exact INd.step (c1 := fcl m13) hV hS ab a2 b2 s1 (fun x y hy hn => s2 x y (by omega) hn) s3 (fun x y hy hn => s4 x y (by omega) hn)
      · have hS : gS s0 v1.toNatClampNeg = false := by
          show (!bt (s0.1 72 14) v1.toNatClampNeg) = false
          rw [has_t h6 (by omega)]; rfl
        refine ih (v1 + (1 : Int32)) m (by omega) (by omega) (by omega) hI hF ?_
        rw [hs1]
        exact INd.gate hV hS
theorem rm_12 {s0 : sm_S} (hJ0 : zI s0) {Q : sm_S → Prop} (k2 : Int32 → sm_S → Option sm_S) (v1 : Int32) (h1 : 0 ≤ v1.toInt ∧ v1.toInt < (s0.1 72 3).toInt) (hk : ∀ m, zI m → Fr [(99, 999)] s0 m → IN0 (fcl m) 1000000 (nC s0) (v1.toNatClampNeg + 1) 0 → Sf Q (k2 (v1 + (1 : Int32)) m)) : ∀ (n : Nat) (v2 : Int32) (m : sm_S), 0 ≤ v2.toInt → v2.toInt ≤ (s0.1 72 3).toInt → (s0.1 72 3).toInt - v2.toInt < (n : Int) → zI m → Fr [(99, 999)] s0 m → IN0 (fcl m) 1000000 (nC s0) v1.toNatClampNeg v2.toNatClampNeg → Sf Q (fX12_measures_12 k2 n v1 v2 m) := by
  have l0 := L0
  have lM := L1000000
  obtain ⟨eH, eC, bH, bC⟩ := t_n hJ0
  have t1 := a_tn h1.1
  intro n
  induction n with
  | zero => intro v2 m h0 hl hn; have hz : ((0 : Nat) : Int) = 0 := rfl; omega
  | succ n ih =>
    intro v2 m h0 hl hn hI hF hV
    have hnn : ((n + 1 : Nat) : Int) = (n : Int) + 1 := by omega
    have t2 := a_tn h0
    have e3 : m.1 72 3 = s0.1 72 3 := hF 72 3 rfl
    unfold fX12_measures_12
    rw [e3]
    refine s_le (fun g => hk m hI hF (hV.row (by omega))) (fun g => ?_)
    obtain ⟨p1, q1⟩ := i10 (a := v1) (b := v2) (by omega) (by omega)
    have ev : (v2 + (1 : Int32)).toInt = v2.toInt + 1 := a_addl L1 (by omega) (by omega)
    have hs2 : (v2 + (1 : Int32)).toNatClampNeg = v2.toNatClampNeg + 1 := by
      have := a_tn (x := v2 + (1 : Int32)) (by omega)
      omega
    have put : ∀ w : Int32, 0 ≤ w.toInt ∧ w.toInt ≤ 1000000 → w.toInt = min 1000000 (if v1.toNatClampNeg = v2.toNatClampNeg then 0 else 1000000) → Sf Q (if sm_ix (((10 : Int32) * v1) + v2) 100 then (fX12_measures_12 k2 n v1 (v2 + (1 : Int32)) (sm_w1 m 99 (((10 : Int32) * v1) + v2).toNatClampNeg w)) else none) := fun w hw he => by
      refine s_ix (by omega) ?_
      rw [q1]
      obtain ⟨w1, w2⟩ := fcl_w (m := m) (a := v1.toNatClampNeg) (b := v2.toNatClampNeg) (v := w) (by omega)
      refine ih (v2 + (1 : Int32)) _ (by omega) (by omega) (by omega) (zI.w hI rfl hw) (Fr.w hF rfl) ?_
      rw [hs2]
      exact hV.step (by rw [w1, he]) (fun x y hy hn => w2 x y (by omega) hn)
    refine s_eq (fun g2 => put (0 : Int32) (by omega) ?_) (fun g2 => put (1000000 : Int32) (by omega) ?_)
    · rw [if_pos (show v1.toNatClampNeg = v2.toNatClampNeg by omega), l0]; decide
    · rw [if_neg (show ¬ v1.toNatClampNeg = v2.toNatClampNeg by omega), lM]; decide
theorem rm_2 {s0 : sm_S} (hJ0 : zI s0) (hC0 : zC s0) : ∀ (n : Nat) (v1 : Int32) (m : sm_S), 0 ≤ v1.toInt → v1.toInt ≤ (s0.1 72 3).toInt → (s0.1 72 3).toInt - v1.toInt < (n : Int) → zI m → Fr [(99, 999)] s0 m → IN0 (fcl m) 1000000 (nC s0) v1.toNatClampNeg 0 → Sf (FARq s0) (fX12_measures_2 n v1 m) := by
  have l0 := L0
  have hfu := fuE
  have z0 : (0 : Int32).toNatClampNeg = 0 := by decide
  obtain ⟨eH, eC, bH, bC⟩ := t_n hJ0
  intro n
  induction n with
  | zero => intro v1 m h0 hl hn; have hz : ((0 : Nat) : Int) = 0 := rfl; omega
  | succ n ih =>
    intro v1 m h0 hl hn hI hF hV
    have hnn : ((n + 1 : Nat) : Int) = (n : Int) + 1 := by omega
    have t1 := a_tn h0
    have e3 : m.1 72 3 = s0.1 72 3 := hF 72 3 rfl
    unfold fX12_measures_2
    rw [e3]
    refine s_le (fun g => ?_) (fun g => ?_)
    · refine rm_57 hJ0 hC0 sm_fu (0 : Int32) m (by omega) (by omega) (by omega) hI hF ?_
      rw [z0]
      exact hV.all (by omega)
    · have ev : (v1 + (1 : Int32)).toInt = v1.toInt + 1 := a_addl L1 (by omega) (by omega)
      have hs1 : (v1 + (1 : Int32)).toNatClampNeg = v1.toNatClampNeg + 1 := by
        have := a_tn (x := v1 + (1 : Int32)) (by omega)
        omega
      exact rm_12 hJ0 _ v1 (by omega) (fun m' hI' hF' hV' => ih (v1 + (1 : Int32)) m' (by omega) (by omega) (by omega) hI' hF' (by rw [hs1]; exact hV')) sm_fu (0 : Int32) m (by omega) (by omega) (by omega) hI hF (by rw [z0]; exact hV)
/-- the reference's far -/
theorem s_far {s : sm_S} (hJ : zI s) (hC : zC s) : Sf (FARq s) (fX12_measures s) := by
  have l0 := L0
  have hfu := fuE
  have z0 : (0 : Int32).toNatClampNeg = 0 := by decide
  obtain ⟨eH, eC, bH, bC⟩ := t_n hJ
  unfold fX12_measures
  refine rm_2 hJ hC sm_fu (0 : Int32) s (by omega) (by omega) (by omega) hJ Fr.refl (fun x y hx hy hp => ?_)
  rw [z0] at hp
  omega
