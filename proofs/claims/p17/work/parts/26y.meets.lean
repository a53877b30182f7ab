/-! TWO TOURS ARE WALKED: by places in the class, by minutes in the reference -/
def crV (m : sm_S) (c0 : Int32) (hd : Nat → Int32) : Nat → Int32
  | 0 => c0
  | k + 1 => otE m (hd k) (crV m c0 hd k)
def mnV (m : sm_S) (c0 : Int32) (hd : Nat → Int32) : Nat → Int
  | 0 => 0
  | k + 1 => mnV m c0 hd k + (mnF m (hd k) (crV m c0 hd k)).toInt
/-- the hedges of the first N steps are there -/
def TOK (m : sm_S) (hd : Nat → Int32) (N : Nat) : Prop := ∀ k : Nat, k < N → 0 ≤ (hd k).toInt ∧ (hd k).toInt < (m.1 3 1).toInt
theorem mnF_b {m s : sm_S} (hL : XL m s) (hJ : zI s) {h : Int32} (c : Int32) (h0 : 0 ≤ h.toInt) (h1 : h.toInt < (m.1 3 1).toInt) : 1 ≤ (mnF m h c).toInt ∧ (mnF m h c).toInt ≤ 29 := by
  have e31 := hL.hedge
  obtain ⟨q1, q2, q3, -, -, -, q7, -⟩ := hL.row h0 h1
  have hle := zI.le hJ
  have p78 := zI.pf78 hJ h h0 (by omega)
  have p82 := zI.pf82 hJ h h0 (by omega)
  have b78 : ((-1 : Int) ≤ (s.1 78 h.toNatClampNeg).toInt) ∧ (s.1 78 h.toNatClampNeg).toInt ≤ 20 := hJ.1 78 h.toNatClampNeg
  have b82 : ((-1 : Int) ≤ (s.1 82 h.toNatClampNeg).toInt) ∧ (s.1 82 h.toNatClampNeg).toInt ≤ 9 := hJ.1 82 h.toNatClampNeg
  unfold mnF
  rw [q1, q3, q7]
  split
  · omega
  · rw [a_add (by omega) (by omega)]; omega
theorem mnV_s {m s : sm_S} (hL : XL m s) (hJ : zI s) {c0 : Int32} {hd : Nat → Int32} {N : Nat} (ht : TOK m hd N) {k : Nat} (hk : k < N) : mnV m c0 hd k + 1 ≤ mnV m c0 hd (k + 1) ∧ mnV m c0 hd (k + 1) ≤ mnV m c0 hd k + 29 := by
  obtain ⟨a, b⟩ := ht k hk
  have := mnF_b hL hJ (crV m c0 hd k) a b
  have e : mnV m c0 hd (k + 1) = mnV m c0 hd k + (mnF m (hd k) (crV m c0 hd k)).toInt := rfl
  omega
theorem mnV_b {m s : sm_S} (hL : XL m s) (hJ : zI s) {c0 : Int32} {hd : Nat → Int32} {N : Nat} (ht : TOK m hd N) : ∀ k : Nat, k ≤ N → 0 ≤ mnV m c0 hd k ∧ mnV m c0 hd k ≤ 29 * (k : Int) := by
  intro k
  induction k with
  | zero => intro _; exact ⟨Int.le_refl _, by show (0 : Int) ≤ _; omega⟩
  | succ k ih =>
    intro hk
    have a := ih (by omega)
    have b := mnV_s hL hJ (c0 := c0) ht (k := k) (by omega)
    omega
theorem mnV_lt {m s : sm_S} (hL : XL m s) (hJ : zI s) {c0 : Int32} {hd : Nat → Int32} {N : Nat} (ht : TOK m hd N) : ∀ i j : Nat, i < j → j ≤ N → mnV m c0 hd i < mnV m c0 hd j := by
  intro i j
  induction j with
  | zero => intro h _; omega
  | succ j ih =>
    intro h hj
    have b := mnV_s hL hJ (c0 := c0) ht (k := j) (by omega)
    by_cases q : i = j
    · subst q; omega
    · have := ih (by omega) (by omega)
      omega
/-- at place k at minute t, when the tour begins w minutes later -/
def ATv (mn : Nat → Int) (N : Nat) (w : Int) (k : Nat) (t : Int) : Prop := (k = 0 ∨ w + mn k ≤ t) ∧ (k = N ∨ t ≤ w + mn k)
theorem ATv.uni {mn : Nat → Int} {N : Nat} {w t : Int} (hmn : ∀ i j : Nat, i < j → j ≤ N → mn i < mn j) {i j : Nat} (hi : i ≤ N) (hj : j ≤ N) (h1 : ATv mn N w i t) (h2 : ATv mn N w j t) : i = j := by
  obtain ⟨a1, a2⟩ := h1
  obtain ⟨b1, b2⟩ := h2
  rcases Nat.lt_trichotomy i j with q | q | q
  · have := hmn i j q hj; omega
  · exact q
  · have := hmn j i q hi; omega
theorem v_sc (m0 : sm_S) (hI0 : zI m0) (N : Nat) (hN : N ≤ 29) (c0 : Int32) (hd : Nat → Int32) (hok : TOK m0 hd N) (hb : ∀ k : Nat, k ≤ N → 0 ≤ mnV m0 c0 hd k ∧ mnV m0 c0 hd k ≤ 29 * (k : Int)) : ∀ (n : Nat) (v2 : Int32) (m : sm_S) (r : Int32 × sm_S), (∀ x : Nat, x < 14 → ∀ j : Nat, m.1 x j = m0.1 x j) → (m.1 58 2).toInt = (N : Int) → (∀ k : Nat, k < N → m.1 59 k = hd k) → 0 ≤ v2.toInt → v2.toInt ≤ (N : Int) → (∀ k : Nat, (k : Int) ≤ v2.toInt → m.1 60 k = crV m0 c0 hd k ∧ (m.1 61 k).toInt = mnV m0 c0 hd k) → fX9_schedule_19 n v2 m = some r → ∀ k : Nat, k ≤ N → r.2.1 60 k = crV m0 c0 hd k ∧ (r.2.1 61 k).toInt = mnV m0 c0 hd k := by
  intro n
  induction n with
  | zero => intro v2 m r hF hL hh h0 h1 hk h; cases h
  | succ n ih =>
    intro v2 m r hF hL hh h0 h1 hk h
    have et := a_tn h0
    have c31 : 0 ≤ (m0.1 3 1).toInt ∧ (m0.1 3 1).toInt ≤ 14 := hI0.1 3 1
    unfold fX9_schedule_19 at h
    by_cases g : (m.1 58 2) ≤ v2
    · have g' := leI.mp g
      rw [if_pos g, if_pos (ix_in (show 0 ≤ (m.1 58 2).toInt ∧ (m.1 58 2).toInt < ((30 : Nat) : Int) by omega))] at h
      obtain rfl := Option.some.inj h
      exact fun k hk2 => hk k (by omega)
    · have g' := Int.not_le.mp (fun z => g (leI.mpr z))
      have hx : 0 ≤ v2.toInt ∧ v2.toInt < ((30 : Nat) : Int) := by omega
      have e2 : (v2 + (1 : Int32)).toInt = v2.toInt + 1 := a_addl L1 (by omega) (by omega)
      have hs : (v2 + (1 : Int32)).toNatClampNeg = v2.toNatClampNeg + 1 := by
        have := a_tn (x := v2 + (1 : Int32)) (by omega)
        omega
      have hx1 : 0 ≤ (v2 + (1 : Int32)).toInt ∧ (v2 + (1 : Int32)).toInt < ((30 : Nat) : Int) := by omega
      obtain ⟨o1, o2⟩ := hok v2.toNatClampNeg (by omega)
      have eh := hh v2.toNatClampNeg (by omega)
      obtain ⟨ec, em⟩ := hk v2.toNatClampNeg (by omega)
      have hh14 : 0 ≤ (hd v2.toNatClampNeg).toInt ∧ (hd v2.toNatClampNeg).toInt < ((14 : Nat) : Int) := by omega
      rw [if_neg g, if_pos (ix_in hx), if_pos (ix_in hx), if_pos (ix_in hx), eh, ec, e_mins11 hh14, Option.bind_some, if_pos (ix_in hx1), if_pos (ix_in hx), e_other11 hh14, Option.bind_some, if_pos (ix_in hx1)] at h
      have emf : mnF m (hd v2.toNatClampNeg) (crV m0 c0 hd v2.toNatClampNeg) = mnF m0 (hd v2.toNatClampNeg) (crV m0 c0 hd v2.toNatClampNeg) := by
        unfold mnF
        rw [hF 6 (by decide), hF 8 (by decide), hF 12 (by decide)]
      have eo : otE (sm_w1 m 61 (v2 + (1 : Int32)).toNatClampNeg ((m.1 61 (v2).toNatClampNeg) + mnF m (hd v2.toNatClampNeg) (crV m0 c0 hd v2.toNatClampNeg))) (hd v2.toNatClampNeg) (crV m0 c0 hd v2.toNatClampNeg) = otE m0 (hd v2.toNatClampNeg) (crV m0 c0 hd v2.toNatClampNeg) := by
        unfold otE
        rw [r_cell (c := 6) (by decide), r_cell (c := 7) (by decide), hF 6 (by decide), hF 7 (by decide)]
      rw [eo, emf] at h
      have em1 : mnV m0 c0 hd (v2.toNatClampNeg + 1) = mnV m0 c0 hd v2.toNatClampNeg + (mnF m0 (hd v2.toNatClampNeg) (crV m0 c0 hd v2.toNatClampNeg)).toInt := rfl
      have b1 := hb (v2.toNatClampNeg + 1) (by omega)
      have ea : ((m.1 61 (v2).toNatClampNeg) + mnF m0 (hd v2.toNatClampNeg) (crV m0 c0 hd v2.toNatClampNeg)).toInt = mnV m0 c0 hd (v2.toNatClampNeg + 1) := by
        rw [a_add (by omega) (by omega), em, em1]
      refine ih (v2 + (1 : Int32)) _ r (fun x hx14 j => ?_) ?_ (fun k hk2 => ?_) (by omega) (by omega) (fun k hk2 => ?_) h
      · rw [r_cell (by omega), r_cell (by omega)]; exact hF x hx14 j
      · rw [r_cell (by decide), r_cell (by decide)]; exact hL
      · rw [r_cell (by decide), r_cell (by decide)]; exact hh k hk2
      · by_cases q : k = (v2 + (1 : Int32)).toNatClampNeg
        · subst q
          rw [r_hit, r_cell (by decide), r_hit, ea, hs]
          exact ⟨rfl, rfl⟩
        · rw [r_place q, r_cell (by decide), r_cell (by decide), r_place q]
          exact hk k (by omega)
theorem v_sc_i1 (m0 : sm_S) (hI0 : zI m0) (N : Nat) (hN : N ≤ 29) (c0 : Int32) (hd : Nat → Int32) (hok : TOK m0 hd N) (hb : ∀ k : Nat, k ≤ N → 0 ≤ mnV m0 c0 hd k ∧ mnV m0 c0 hd k ≤ 29 * (k : Int)) : ∀ (n : Nat) (v2 : Int32) (m : sm_S) (r : Int32 × sm_S), (∀ x : Nat, x < 14 → ∀ j : Nat, m.1 x j = m0.1 x j) → (m.1 62 2).toInt = (N : Int) → (∀ k : Nat, k < N → m.1 63 k = hd k) → 0 ≤ v2.toInt → v2.toInt ≤ (N : Int) → (∀ k : Nat, (k : Int) ≤ v2.toInt → m.1 64 k = crV m0 c0 hd k ∧ (m.1 65 k).toInt = mnV m0 c0 hd k) → fX9_schedule_i1_19 n v2 m = some r → ∀ k : Nat, k ≤ N → r.2.1 64 k = crV m0 c0 hd k ∧ (r.2.1 65 k).toInt = mnV m0 c0 hd k := by
  intro n
  induction n with
  | zero => intro v2 m r hF hL hh h0 h1 hk h; cases h
  | succ n ih =>
    intro v2 m r hF hL hh h0 h1 hk h
    have et := a_tn h0
    have c31 : 0 ≤ (m0.1 3 1).toInt ∧ (m0.1 3 1).toInt ≤ 14 := hI0.1 3 1
    unfold fX9_schedule_i1_19 at h
    by_cases g : (m.1 62 2) ≤ v2
    · have g' := leI.mp g
      rw [if_pos g, if_pos (ix_in (show 0 ≤ (m.1 62 2).toInt ∧ (m.1 62 2).toInt < ((30 : Nat) : Int) by omega))] at h
      obtain rfl := Option.some.inj h
      exact fun k hk2 => hk k (by omega)
    · have g' := Int.not_le.mp (fun z => g (leI.mpr z))
      have hx : 0 ≤ v2.toInt ∧ v2.toInt < ((30 : Nat) : Int) := by omega
      have e2 : (v2 + (1 : Int32)).toInt = v2.toInt + 1 := a_addl L1 (by omega) (by omega)
      have hs : (v2 + (1 : Int32)).toNatClampNeg = v2.toNatClampNeg + 1 := by
        have := a_tn (x := v2 + (1 : Int32)) (by omega)
        omega
      have hx1 : 0 ≤ (v2 + (1 : Int32)).toInt ∧ (v2 + (1 : Int32)).toInt < ((30 : Nat) : Int) := by omega
      obtain ⟨o1, o2⟩ := hok v2.toNatClampNeg (by omega)
      have eh := hh v2.toNatClampNeg (by omega)
      obtain ⟨ec, em⟩ := hk v2.toNatClampNeg (by omega)
      have hh14 : 0 ≤ (hd v2.toNatClampNeg).toInt ∧ (hd v2.toNatClampNeg).toInt < ((14 : Nat) : Int) := by omega
      rw [if_neg g, if_pos (ix_in hx), if_pos (ix_in hx), if_pos (ix_in hx), eh, ec, e_mins11 hh14, Option.bind_some, if_pos (ix_in hx1), if_pos (ix_in hx), e_other11 hh14, Option.bind_some, if_pos (ix_in hx1)] at h
      have emf : mnF m (hd v2.toNatClampNeg) (crV m0 c0 hd v2.toNatClampNeg) = mnF m0 (hd v2.toNatClampNeg) (crV m0 c0 hd v2.toNatClampNeg) := by
        unfold mnF
        rw [hF 6 (by decide), hF 8 (by decide), hF 12 (by decide)]
      have eo : otE (sm_w1 m 65 (v2 + (1 : Int32)).toNatClampNeg ((m.1 65 (v2).toNatClampNeg) + mnF m (hd v2.toNatClampNeg) (crV m0 c0 hd v2.toNatClampNeg))) (hd v2.toNatClampNeg) (crV m0 c0 hd v2.toNatClampNeg) = otE m0 (hd v2.toNatClampNeg) (crV m0 c0 hd v2.toNatClampNeg) := by
        unfold otE
        rw [r_cell (c := 6) (by decide), r_cell (c := 7) (by decide), hF 6 (by decide), hF 7 (by decide)]
      rw [eo, emf] at h
      have em1 : mnV m0 c0 hd (v2.toNatClampNeg + 1) = mnV m0 c0 hd v2.toNatClampNeg + (mnF m0 (hd v2.toNatClampNeg) (crV m0 c0 hd v2.toNatClampNeg)).toInt := rfl
      have b1 := hb (v2.toNatClampNeg + 1) (by omega)
      have ea : ((m.1 65 (v2).toNatClampNeg) + mnF m0 (hd v2.toNatClampNeg) (crV m0 c0 hd v2.toNatClampNeg)).toInt = mnV m0 c0 hd (v2.toNatClampNeg + 1) := by
        rw [a_add (by omega) (by omega), em, em1]
      refine ih (v2 + (1 : Int32)) _ r (fun x hx14 j => ?_) ?_ (fun k hk2 => ?_) (by omega) (by omega) (fun k hk2 => ?_) h
      · rw [r_cell (by omega), r_cell (by omega)]; exact hF x hx14 j
      · rw [r_cell (by decide), r_cell (by decide)]; exact hL
      · rw [r_cell (by decide), r_cell (by decide)]; exact hh k hk2
      · by_cases q : k = (v2 + (1 : Int32)).toNatClampNeg
        · subst q
          rw [r_hit, r_cell (by decide), r_hit, ea, hs]
          exact ⟨rfl, rfl⟩
        · rw [r_place q, r_cell (by decide), r_cell (by decide), r_place q]
          exact hk k (by omega)
/-- what both know of the tours: i's corner, steps and hedges in the reference -/
def TUv (s : sm_S) (i : Nat) (N : Nat) (c0 : Int32) (hd : Nat → Int32) : Prop := s.1 89 i = c0 ∧ (s.1 90 i).toInt = (N : Int) ∧ ∀ k : Nat, k < N → s.1 91 (30 * i + k) = hd k
/-- both are at one corner at minute t -/
def MMv (m : sm_S) (N1 N2 : Nat) (c1 c2 : Int32) (h1 h2 : Nat → Int32) (w : Int) (t : Int) : Prop := ∃ k l : Nat, k ≤ N1 ∧ l ≤ N2 ∧ crV m c1 h1 k = crV m c2 h2 l ∧ ATv (mnV m c1 h1) N1 0 k t ∧ ATv (mnV m c2 h2) N2 w l t
/-! the class's least over all places -/
theorem mob_leaf {A B C D : Int32} {P : Int32 → Prop} (h1 : (A.toInt < C.toInt ∨ A.toInt < D.toInt ∨ B.toInt < C.toInt ∨ B.toInt < D.toInt) → P (65535 : Int32)) (h2 : ∀ r : Int32, ((r.toInt = C.toInt ∧ D.toInt ≤ C.toInt) ∨ (r.toInt = D.toInt ∧ C.toInt ≤ D.toInt)) → r.toInt ≤ A.toInt → r.toInt ≤ B.toInt → P r) : Sf P (if (if A < B then A else B) < (if C < D then D else C) then (some (65535 : Int32)) else (some (if C < D then D else C))) := by
  have cu : (A.toInt < B.toInt ∧ (if A < B then A else B).toInt = A.toInt) ∨ (B.toInt ≤ A.toInt ∧ (if A < B then A else B).toInt = B.toInt) := a_ilt
  have cf : (C.toInt < D.toInt ∧ (if C < D then D else C).toInt = D.toInt) ∨ (D.toInt ≤ C.toInt ∧ (if C < D then D else C).toInt = C.toInt) := a_ilt
  generalize (if A < B then A else B) = U at cu ⊢
  generalize (if C < D then D else C) = F at cf ⊢
  refine s_lt (fun g => s_ret (h1 ?_)) (fun g => s_ret (h2 F ?_ ?_ ?_)) <;> omega
theorem e_mob {m : sm_S} {x1 x2 w : Int32} {N1 N2 : Nat} {t1 t2 : Nat → Int} (hN1 : (m.1 58 2).toInt = (N1 : Int)) (hN2 : (m.1 62 2).toInt = (N2 : Int)) (b1 : N1 ≤ 29) (b2 : N2 ≤ 29) (h1 : ∀ k : Nat, k ≤ N1 → (m.1 61 k).toInt = t1 k ∧ 0 ≤ t1 k ∧ t1 k ≤ 870) (h2 : ∀ k : Nat, k ≤ N2 → (m.1 65 k).toInt = t2 k ∧ 0 ≤ t2 k ∧ t2 k ≤ 870) (hz : t1 0 = 0) (hw : 0 ≤ w.toInt ∧ w.toInt ≤ 99) (hx1 : 0 ≤ x1.toInt ∧ x1.toInt ≤ (N1 : Int)) (hx2 : 0 ≤ x2.toInt ∧ x2.toInt ≤ (N2 : Int)) : Sf (fun r => (r.toInt = 65535 ∧ ∀ t : Int, 0 ≤ t → ATv t1 N1 0 x1.toNatClampNeg t → ATv t2 N2 w.toInt x2.toNatClampNeg t → False) ∨ (0 ≤ r.toInt ∧ r.toInt ≤ 969 ∧ ATv t1 N1 0 x1.toNatClampNeg r.toInt ∧ ATv t2 N2 w.toInt x2.toNatClampNeg r.toInt ∧ ∀ t : Int, 0 ≤ t → ATv t1 N1 0 x1.toNatClampNeg t → ATv t2 N2 w.toInt x2.toNatClampNeg t → r.toInt ≤ t)) (fX9_minuteOfBoth x1 x2 w m) := by
  have l0 := L0
  have l65535 := L65535
  have et1 := a_tn hx1.1
  have et2 := a_tn hx2.1
  obtain ⟨p1, p2, p3⟩ := h1 x1.toNatClampNeg (by omega)
  obtain ⟨q1, q2, q3⟩ := h2 x2.toNatClampNeg (by omega)
  have hz' : x1.toNatClampNeg ≠ 0 ∨ t1 x1.toNatClampNeg = 0 := by
    by_cases z : x1.toNatClampNeg = 0
    · exact Or.inr (by rw [z]; exact hz)
    · exact Or.inl z
  have ew : (w + (m.1 65 x2.toNatClampNeg)).toInt = w.toInt + t2 x2.toNatClampNeg := by rw [a_add (by omega) (by omega), q1]
  have hix1 : 0 ≤ x1.toInt ∧ x1.toInt < ((30 : Nat) : Int) := by omega
  have hix2 : 0 ≤ x2.toInt ∧ x2.toInt < ((30 : Nat) : Int) := by omega
  unfold ATv fX9_minuteOfBoth
  refine s_eq (fun z1 => ?_) (fun z1 => ?_)
  · refine s_eq (fun z2 => ?_) (fun z2 => s_ix hix2 ?_)
    · refine s_eq (fun z3 => s_ix hix1 ?_) (fun z3 => s_ix hix1 (s_ix hix1 ?_))
      · exact mob_leaf (fun g => Or.inl ⟨l65535, fun t ht a b => by omega⟩) (fun r g ga gb => Or.inr ⟨by omega, by omega, by omega, by omega, fun t ht a b => by omega⟩)
      · exact mob_leaf (fun g => Or.inl ⟨l65535, fun t ht a b => by omega⟩) (fun r g ga gb => Or.inr ⟨by omega, by omega, by omega, by omega, fun t ht a b => by omega⟩)
    · refine s_eq (fun z3 => s_ix hix1 ?_) (fun z3 => s_ix hix1 (s_ix hix1 ?_))
      · exact mob_leaf (fun g => Or.inl ⟨l65535, fun t ht a b => by omega⟩) (fun r g ga gb => Or.inr ⟨by omega, by omega, by omega, by omega, fun t ht a b => by omega⟩)
      · exact mob_leaf (fun g => Or.inl ⟨l65535, fun t ht a b => by omega⟩) (fun r g ga gb => Or.inr ⟨by omega, by omega, by omega, by omega, fun t ht a b => by omega⟩)
  · refine s_ix hix2 (s_eq (fun z2 => ?_) (fun z2 => s_ix hix2 ?_))
    · refine s_eq (fun z3 => s_ix hix1 ?_) (fun z3 => s_ix hix1 (s_ix hix1 ?_))
      · exact mob_leaf (fun g => Or.inl ⟨l65535, fun t ht a b => by omega⟩) (fun r g ga gb => Or.inr ⟨by omega, by omega, by omega, by omega, fun t ht a b => by omega⟩)
      · exact mob_leaf (fun g => Or.inl ⟨l65535, fun t ht a b => by omega⟩) (fun r g ga gb => Or.inr ⟨by omega, by omega, by omega, by omega, fun t ht a b => by omega⟩)
    · refine s_eq (fun z3 => s_ix hix1 ?_) (fun z3 => s_ix hix1 (s_ix hix1 ?_))
      · exact mob_leaf (fun g => Or.inl ⟨l65535, fun t ht a b => by omega⟩) (fun r g ga gb => Or.inr ⟨by omega, by omega, by omega, by omega, fun t ht a b => by omega⟩)
      · exact mob_leaf (fun g => Or.inl ⟨l65535, fun t ht a b => by omega⟩) (fun r g ga gb => Or.inr ⟨by omega, by omega, by omega, by omega, fun t ht a b => by omega⟩)
/-- v is the least minute of the pairs of places that were looked at -/
def BSv (T : Nat → Nat → Int → Prop) (S : Nat → Nat → Prop) (v : Int) : Prop := (v = 65535 ∨ (0 ≤ v ∧ v ≤ 969 ∧ ∃ k l : Nat, S k l ∧ T k l v)) ∧ ∀ k l : Nat, S k l → ∀ t : Int, 0 ≤ t → T k l t → v ≤ t ∧ v < 65535
theorem BSv.same {T : Nat → Nat → Int → Prop} {S S' : Nat → Nat → Prop} {v : Int} (h : BSv T S v) (hs : ∀ k l, S' k l ↔ S k l) : BSv T S' v :=
  ⟨h.1.imp id (fun ⟨a, b, k, l, c, d⟩ => ⟨a, b, k, l, (hs k l).mpr c, d⟩), fun k l hkl t ht hT => h.2 k l ((hs k l).mp hkl) t ht hT⟩
theorem BSv.skip {T : Nat → Nat → Int → Prop} {S S' : Nat → Nat → Prop} {v : Int} {k0 l0 : Nat} (h : BSv T S v) (hs : ∀ k l, S' k l → S k l ∨ (k = k0 ∧ l = l0)) (hs2 : ∀ k l, S k l → S' k l) (hn : ∀ t : Int, 0 ≤ t → T k0 l0 t → v ≤ t ∧ v < 65535) : BSv T S' v := by
  refine ⟨h.1.imp id (fun ⟨a, b, k, l, c, d⟩ => ⟨a, b, k, l, hs2 k l c, d⟩), fun k l hkl t ht hT => ?_⟩
  rcases hs k l hkl with q | ⟨rfl, rfl⟩
  · exact h.2 k l q t ht hT
  · exact hn t ht hT
theorem BSv.take {T : Nat → Nat → Int → Prop} {S S' : Nat → Nat → Prop} {v r : Int} {k0 l0 : Nat} (h : BSv T S v) (hs : ∀ k l, S' k l → S k l ∨ (k = k0 ∧ l = l0)) (hS : S' k0 l0) (r0 : 0 ≤ r) (r1 : r ≤ 969) (hT : T k0 l0 r) (hl : ∀ t : Int, 0 ≤ t → T k0 l0 t → r ≤ t) (hv : r < v) : BSv T S' r := by
  refine ⟨Or.inr ⟨r0, r1, k0, l0, hS, hT⟩, fun k l hkl t ht hT2 => ?_⟩
  rcases hs k l hkl with q | ⟨rfl, rfl⟩
  · have := h.2 k l q t ht hT2
    omega
  · have := hl t ht hT2
    omega
def SKv (N1 N2 a b : Nat) : Nat → Nat → Prop := fun k l => k ≤ N1 ∧ l ≤ N2 ∧ (k < a ∨ (k = a ∧ l < b))
/-- what the class's schedule of both tours says -/
def SHv (m0 m : sm_S) (N1 N2 : Nat) (c1 c2 : Int32) (h1 h2 : Nat → Int32) : Prop := (m.1 58 2).toInt = (N1 : Int) ∧ (m.1 62 2).toInt = (N2 : Int) ∧ (∀ k : Nat, k ≤ N1 → m.1 60 k = crV m0 c1 h1 k ∧ (m.1 61 k).toInt = mnV m0 c1 h1 k ∧ 0 ≤ mnV m0 c1 h1 k ∧ mnV m0 c1 h1 k ≤ 870) ∧ (∀ k : Nat, k ≤ N2 → m.1 64 k = crV m0 c2 h2 k ∧ (m.1 65 k).toInt = mnV m0 c2 h2 k ∧ 0 ≤ mnV m0 c2 h2 k ∧ mnV m0 c2 h2 k ≤ 870)
def MTv (m : sm_S) (N1 N2 : Nat) (c1 c2 : Int32) (h1 h2 : Nat → Int32) (w : Int) : Nat → Nat → Int → Prop := fun k l t => crV m c1 h1 k = crV m c2 h2 l ∧ ATv (mnV m c1 h1) N1 0 k t ∧ ATv (mnV m c2 h2) N2 w l t
theorem v_fm21 {m0 m : sm_S} {N1 N2 : Nat} {c1 c2 : Int32} {h1 h2 : Nat → Int32} {w : Int32} (hI : zI m) (b1 : N1 ≤ 29) (b2 : N2 ≤ 29) (hw : 0 ≤ w.toInt ∧ w.toInt ≤ 99) (hS : SHv m0 m N1 N2 c1 c2 h1 h2) {Q : Int32 → Prop} (k9 : Int32 → Int32 → Int32 → Int32 → sm_S → Option (Int32)) (v5 : Int32) (h5 : 0 ≤ v5.toInt ∧ v5.toInt ≤ (N1 : Int)) (hk : ∀ v3 v4 : Int32, 0 ≤ v4.toInt → v4.toInt ≤ 9 → BSv (MTv m0 N1 N2 c1 c2 h1 h2 w.toInt) (SKv N1 N2 (v5.toNatClampNeg + 1) 0) v3.toInt → Sf Q (k9 w v3 v4 (v5 + (1 : Int32)) m)) : ∀ (n : Nat) (v3 v4 v6 : Int32), 0 ≤ v6.toInt → v6.toInt ≤ (N2 : Int) + 1 → (N2 : Int) + 1 - v6.toInt < (n : Int) → 0 ≤ v4.toInt → v4.toInt ≤ 9 → BSv (MTv m0 N1 N2 c1 c2 h1 h2 w.toInt) (SKv N1 N2 v5.toNatClampNeg v6.toNatClampNeg) v3.toInt → Sf Q (fX9_firstMeeting_21 k9 n w v3 v4 v5 v6 m) := by
  have l65535 := L65535
  obtain ⟨s1, s2, s3, s4⟩ := hS
  have et5 := a_tn h5.1
  have hmn0 : mnV m0 c1 h1 0 = 0 := rfl
  intro n
  induction n with
  | zero => intro v3 v4 v6 h6 h66 hn; have hz : ((0 : Nat) : Int) = 0 := rfl; omega
  | succ n ih =>
    intro v3 v4 v6 h6 h66 hn h4 h44 hB
    have hnn : ((n + 1 : Nat) : Int) = (n : Int) + 1 := by omega
    have et6 := a_tn h6
    unfold fX9_firstMeeting_21
    refine s_lt (fun g => ?_) (fun g => ?_)
    · refine hk v3 v4 h4 h44 (hB.same (fun k l => ?_))
      unfold SKv; omega
    · have e6 : (v6 + (1 : Int32)).toInt = v6.toInt + 1 := a_addl L1 (by omega) (by omega)
      have hs6 : (v6 + (1 : Int32)).toNatClampNeg = v6.toNatClampNeg + 1 := by
        have := a_tn (x := v6 + (1 : Int32)) (by omega)
        omega
      have hix5 : 0 ≤ v5.toInt ∧ v5.toInt < ((30 : Nat) : Int) := by omega
      have hix6 : 0 ≤ v6.toInt ∧ v6.toInt < ((30 : Nat) : Int) := by omega
      have hsub : ∀ k l, SKv N1 N2 v5.toNatClampNeg (v6 + (1 : Int32)).toNatClampNeg k l → SKv N1 N2 v5.toNatClampNeg v6.toNatClampNeg k l ∨ (k = v5.toNatClampNeg ∧ l = v6.toNatClampNeg) := by
        intro k l; unfold SKv; rw [hs6]; omega
      have hsup : ∀ k l, SKv N1 N2 v5.toNatClampNeg v6.toNatClampNeg k l → SKv N1 N2 v5.toNatClampNeg (v6 + (1 : Int32)).toNatClampNeg k l := by
        intro k l; unfold SKv; rw [hs6]; omega
      have hnew : SKv N1 N2 v5.toNatClampNeg (v6 + (1 : Int32)).toNatClampNeg v5.toNatClampNeg v6.toNatClampNeg := by
        unfold SKv; rw [hs6]; omega
      have c60 : 0 ≤ (m.1 60 v5.toNatClampNeg).toInt ∧ (m.1 60 v5.toNatClampNeg).toInt ≤ 9 := hI.1 60 _
      refine s_ix hix5 (s_ix hix6 ?_)
      obtain ⟨p1, -⟩ := s3 v5.toNatClampNeg (by omega)
      obtain ⟨q1, -⟩ := s4 v6.toNatClampNeg (by omega)
      refine s_if (fun z => ?_) (fun z => ?_)
      · rw [p1, q1] at z
        refine s_bd (e_mob (t1 := mnV m0 c1 h1) (t2 := mnV m0 c2 h2) s1 s2 b1 b2 (fun k hk2 => (s3 k hk2).2) (fun k hk2 => (s4 k hk2).2) hmn0 hw h5 ⟨h6, by omega⟩) (fun r hr => ?_)
        rcases hr with ⟨r1, r2⟩ | ⟨r1, r2, r3, r4, r5⟩
        · refine s_le (fun g2 => ?_) (fun g2 => ?_)
          · exact ih v3 v4 (v6 + (1 : Int32)) (by omega) (by omega) (by omega) h4 h44 (hB.skip hsub hsup (fun t ht hT => absurd (r2 t ht hT.2.1 hT.2.2) id))
          · rcases hB.1 with y | ⟨y1, y2, -⟩ <;> omega
        · refine s_le (fun g2 => ?_) (fun g2 => s_ix hix5 ?_)
          · exact ih v3 v4 (v6 + (1 : Int32)) (by omega) (by omega) (by omega) h4 h44 (hB.skip hsub hsup (fun t ht hT => by have := r5 t ht hT.2.1 hT.2.2; omega))
          · exact ih r _ (v6 + (1 : Int32)) (by omega) (by omega) (by omega) c60.1 c60.2 (hB.take hsub hnew r1 r2 ⟨z, r3, r4⟩ (fun t ht hT => r5 t ht hT.2.1 hT.2.2) (by omega))
      · rw [p1, q1] at z
        refine s_le (fun g2 => ?_) (fun g2 => ?_)
        · exact ih v3 v4 (v6 + (1 : Int32)) (by omega) (by omega) (by omega) h4 h44 (hB.skip hsub hsup (fun t ht hT => absurd hT.1 z))
        · rcases hB.1 with y | ⟨y1, y2, -⟩ <;> omega
/-- the class's answer: no minute, or the first one times 16 and a corner -/
def FMv (MM : Int → Prop) (r : Int32) : Prop := (r.toInt = -1 ∧ ∀ t : Int, 0 ≤ t → ¬ MM t) ∨ ∃ t c : Int, r.toInt = 16 * t + c ∧ 0 ≤ t ∧ t ≤ 969 ∧ 0 ≤ c ∧ c ≤ 9 ∧ MM t ∧ ∀ u : Int, 0 ≤ u → MM u → t ≤ u
theorem v_fm9 {m0 m : sm_S} {N1 N2 : Nat} {c1 c2 : Int32} {h1 h2 : Nat → Int32} {w : Int32} (hI : zI m) (b1 : N1 ≤ 29) (b2 : N2 ≤ 29) (hw : 0 ≤ w.toInt ∧ w.toInt ≤ 99) (hS : SHv m0 m N1 N2 c1 c2 h1 h2) : ∀ (n : Nat) (v3 v4 v5 : Int32), 0 ≤ v5.toInt → v5.toInt ≤ (N1 : Int) + 1 → (N1 : Int) + 1 - v5.toInt < (n : Int) → 0 ≤ v4.toInt → v4.toInt ≤ 9 → BSv (MTv m0 N1 N2 c1 c2 h1 h2 w.toInt) (SKv N1 N2 v5.toNatClampNeg 0) v3.toInt → Sf (FMv (MMv m0 N1 N2 c1 c2 h1 h2 w.toInt)) (fX9_firstMeeting_9 n w v3 v4 v5 m) := by
  have l0 := L0
  have ln1 := Ln1
  have l65535 := L65535
  have hfu := fuE
  have z0 : (0 : Int32).toNatClampNeg = 0 := by decide
  have s1 := hS.1
  intro n
  induction n with
  | zero => intro v3 v4 v5 h5 h55 hn; have hz : ((0 : Nat) : Int) = 0 := rfl; omega
  | succ n ih =>
    intro v3 v4 v5 h5 h55 hn h4 h44 hB
    have hnn : ((n + 1 : Nat) : Int) = (n : Int) + 1 := by omega
    have et5 := a_tn h5
    unfold fX9_firstMeeting_9
    refine s_lt (fun g => ?_) (fun g => ?_)
    · have hall : ∀ k l : Nat, k ≤ N1 → l ≤ N2 → SKv N1 N2 v5.toNatClampNeg 0 k l := fun k l hk hl => by unfold SKv; omega
      refine s_le (fun g2 => s_ret (Or.inl ⟨ln1, fun t ht hM => ?_⟩)) (fun g2 => s_ret (Or.inr ?_))
      · obtain ⟨k, l, hk, hl, e1, e2, e3⟩ := hM
        have := hB.2 k l (hall k l hk hl) t ht ⟨e1, e2, e3⟩
        omega
      · rcases hB.1 with y | ⟨y1, y2, k, l, y3, y4⟩
        · omega
        · refine ⟨v3.toInt, v4.toInt, pack v3 v4 ⟨y1, by omega⟩ ⟨h4, h44⟩, y1, y2, h4, h44, ⟨k, l, y3.1, y3.2.1, y4.1, y4.2.1, y4.2.2⟩, fun u hu hM => ?_⟩
          obtain ⟨k2, l2, hk, hl, e1, e2, e3⟩ := hM
          exact (hB.2 k2 l2 (hall k2 l2 hk hl) u hu ⟨e1, e2, e3⟩).1
    · have e5 : (v5 + (1 : Int32)).toInt = v5.toInt + 1 := a_addl L1 (by omega) (by omega)
      have hs5 : (v5 + (1 : Int32)).toNatClampNeg = v5.toNatClampNeg + 1 := by
        have := a_tn (x := v5 + (1 : Int32)) (by omega)
        omega
      refine v_fm21 hI b1 b2 hw hS (fX9_firstMeeting_9 n) v5 ⟨h5, by omega⟩ (fun u3 u4 hu hu2 hB2 => ?_) sm_fu v3 v4 (0 : Int32) (by omega) (by omega) (by omega) h4 h44 (by rw [z0]; exact hB)
      exact ih u3 u4 (v5 + (1 : Int32)) (by omega) (by omega) (by omega) hu hu2 (by rw [hs5]; exact hB2)
theorem s_first {m0 m : sm_S} {N1 N2 : Nat} {c1 c2 : Int32} {h1 h2 : Nat → Int32} {w : Int32} (hI : zI m) (b1 : N1 ≤ 29) (b2 : N2 ≤ 29) (hw : 0 ≤ w.toInt ∧ w.toInt ≤ 99) (hS : SHv m0 m N1 N2 c1 c2 h1 h2) : Sf (FMv (MMv m0 N1 N2 c1 c2 h1 h2 w.toInt)) (fX9_firstMeeting w m) := by
  have l0 := L0
  have l65535 := L65535
  have hfu := fuE
  have z0 : (0 : Int32).toNatClampNeg = 0 := by decide
  unfold fX9_firstMeeting
  refine v_fm9 hI b1 b2 hw hS sm_fu (65535 : Int32) (0 : Int32) (0 : Int32) (by omega) (by omega) (by omega) (by omega) (by omega) ⟨Or.inl l65535, fun k l hs => ?_⟩
  unfold SKv at hs
  rw [z0] at hs
  omega
/-! the reference's corner at a minute -/
theorem v_corner {m s : sm_S} (hL : XL m s) (hI : zI m) {i w t : Int32} (hi : 0 ≤ i.toInt ∧ i.toInt ≤ 1) (hw : 0 ≤ w.toInt ∧ w.toInt ≤ 99) {N : Nat} {c0 : Int32} {hd : Nat → Int32} (hT : TUv s i.toNatClampNeg N c0 hd) (hN : N ≤ 29) (hc : 0 ≤ c0.toInt) (hok : TOK m hd N) (hb : ∀ k : Nat, k ≤ N → 0 ≤ mnV m c0 hd k ∧ mnV m c0 hd k ≤ 29 * (k : Int)) : ∀ (n : Nat) (v4 v5 v6 v7 : Int32), 0 ≤ v7.toInt → v7.toInt ≤ (N : Int) → (N : Int) - v7.toInt < (n : Int) → v4 = crV m c0 hd v7.toNatClampNeg → v5.toInt = w.toInt + mnV m c0 hd v7.toNatClampNeg → ((v6.toInt = -1 ∧ ∀ j : Nat, j ≤ v7.toNatClampNeg → ¬ ((j = 0 ∧ t.toInt ≤ w.toInt) ∨ (0 < j ∧ t.toInt = w.toInt + mnV m c0 hd j))) ∨ (∃ j : Nat, j ≤ v7.toNatClampNeg ∧ ((j = 0 ∧ t.toInt ≤ w.toInt) ∨ (0 < j ∧ t.toInt = w.toInt + mnV m c0 hd j)) ∧ v6 = crV m c0 hd j)) → Sf (fun r => (r.2.1 72 39).toInt = w.toInt + mnV m c0 hd N ∧ ((r.1.toInt = -1 ∧ ∀ j : Nat, j ≤ N → ¬ ATv (mnV m c0 hd) N w.toInt j t.toInt) ∨ (∃ j : Nat, j ≤ N ∧ ATv (mnV m c0 hd) N w.toInt j t.toInt ∧ r.1 = crV m c0 hd j))) (fX12_cornerOf_28 n i t v4 v5 v6 v7 s) := by
  obtain ⟨u1, u2, u3⟩ := hT
  have eti := a_tn hi.1
  have hmn0 : mnV m c0 hd 0 = 0 := rfl
  intro n
  induction n with
  | zero => intro v4 v5 v6 v7 h7 h77 hn; have hz : ((0 : Nat) : Int) = 0 := rfl; omega
  | succ n ih =>
    intro v4 v5 v6 v7 h7 h77 hn e4 e5 hP
    have hnn : ((n + 1 : Nat) : Int) = (n : Int) + 1 := by omega
    have et7 := a_tn h7
    unfold fX12_cornerOf_28
    refine s_ix (by omega) ?_
    refine s_le (fun g => ?_) (fun g => ?_)
    · have e7 : v7.toNatClampNeg = N := by omega
      rw [e7] at e4 e5 hP
      have e39 : ∀ c : Int32, (((c, sm_w1 s 72 39 v5) : Int32 × sm_S).2.1 72 39).toInt = w.toInt + mnV m c0 hd N := fun c => by
        show ((sm_w1 s 72 39 v5).1 72 39).toInt = _
        rw [r_hit]; exact e5
      refine s_lt (fun g2 => s_ret ⟨e39 _, ?_⟩) (fun g2 => s_ret ⟨e39 _, Or.inr ⟨N, Nat.le_refl _, ⟨Or.inr (by omega), Or.inl rfl⟩, e4⟩⟩)
      rcases hP with ⟨p1, p2⟩ | ⟨j, p1, p2, p3⟩
      · refine Or.inl ⟨p1, fun j hj hA => p2 j hj ?_⟩
        obtain ⟨a1, a2⟩ := hA
        by_cases q : j = 0
        · subst q; rw [hmn0] at a2
          by_cases qN : 0 = N
          · rw [← qN, hmn0] at e5; exact Or.inl ⟨rfl, by omega⟩
          · exact Or.inl ⟨rfl, by omega⟩
        · by_cases qN : j = N
          · subst qN; omega
          · exact Or.inr ⟨by omega, by omega⟩
      · refine Or.inr ⟨j, p1, ?_, p3⟩
        rcases p2 with ⟨rfl, p2⟩ | ⟨p2, p4⟩
        · exact ⟨Or.inl rfl, Or.inr (by rw [hmn0]; omega)⟩
        · exact ⟨Or.inr (by omega), Or.inr (by omega)⟩
    · have e30 : ((30 : Int32) * i).toInt = 30 * i.toInt := a_mul L30 rfl (by omega) (by omega)
      have ei : (((30 : Int32) * i) + v7).toInt = 30 * i.toInt + v7.toInt := by rw [a_add (by omega) (by omega), e30]
      have eit := a_tn (x := ((30 : Int32) * i) + v7) (by omega)
      have e7 : (v7 + (1 : Int32)).toInt = v7.toInt + 1 := a_addl L1 (by omega) (by omega)
      have hs7 : (v7 + (1 : Int32)).toNatClampNeg = v7.toNatClampNeg + 1 := by
        have := a_tn (x := v7 + (1 : Int32)) (by omega)
        omega
      refine s_ix (by omega) ?_
      rw [show (((30 : Int32) * i) + v7).toNatClampNeg = 30 * i.toNatClampNeg + v7.toNatClampNeg by omega, u3 v7.toNatClampNeg (by omega)]
      obtain ⟨o1, o2⟩ := hok v7.toNatClampNeg (by omega)
      rw [e_mins12 hL hI o1 o2, Option.bind_some, e_other12 hL hI o1 o2, Option.bind_some]
      have em1 : mnV m c0 hd (v7.toNatClampNeg + 1) = mnV m c0 hd v7.toNatClampNeg + (mnF m (hd v7.toNatClampNeg) (crV m c0 hd v7.toNatClampNeg)).toInt := rfl
      have ec1 : crV m c0 hd (v7.toNatClampNeg + 1) = otE m (hd v7.toNatClampNeg) (crV m c0 hd v7.toNatClampNeg) := rfl
      have b0 := hb v7.toNatClampNeg (by omega)
      have b1 := hb (v7.toNatClampNeg + 1) (by omega)
      rw [e4]
      have e55 : (v5 + mnF m (hd v7.toNatClampNeg) (crV m c0 hd v7.toNatClampNeg)).toInt = w.toInt + mnV m c0 hd (v7.toNatClampNeg + 1) := by
        rw [a_add (by omega) (by omega), e5, em1]; omega
      refine s_eq (fun g2 => ?_) (fun g2 => ?_)
      · refine ih _ _ _ (v7 + (1 : Int32)) (by omega) (by omega) (by omega) (by rw [hs7, ec1]) (by rw [hs7]; exact e55) (Or.inr ⟨v7.toNatClampNeg + 1, by omega, Or.inr ⟨by omega, by omega⟩, ec1.symm⟩)
      · refine ih _ _ _ (v7 + (1 : Int32)) (by omega) (by omega) (by omega) (by rw [hs7, ec1]) (by rw [hs7]; exact e55) ?_
        rw [hs7]
        rcases hP with ⟨p1, p2⟩ | ⟨j, p1, p2, p3⟩
        · refine Or.inl ⟨p1, fun j hj hA => ?_⟩
          by_cases q : j = v7.toNatClampNeg + 1
          · subst q
            rcases hA with ⟨a1, -⟩ | ⟨-, a2⟩ <;> omega
          · exact p2 j (by omega) hA
        · exact Or.inr ⟨j, by omega, p2, p3⟩
theorem crV_b {m : sm_S} (hI : zI m) {c0 : Int32} (hc : 0 ≤ c0.toInt) (hd : Nat → Int32) (k : Nat) : 0 ≤ (crV m c0 hd k).toInt := by
  cases k with
  | zero => exact hc
  | succ k => exact (otE.b hI _ _).1
theorem s_corner {m s : sm_S} (hL : XL m s) (hI : zI m) (hJ : zI s) {i w t : Int32} (hi : 0 ≤ i.toInt ∧ i.toInt ≤ 1) (hw : 0 ≤ w.toInt ∧ w.toInt ≤ 99) (ht : 0 ≤ t.toInt ∧ t.toInt ≤ 969) {N : Nat} {c0 : Int32} {hd : Nat → Int32} (hT : TUv s i.toNatClampNeg N c0 hd) (hN : N ≤ 29) (hc : 0 ≤ c0.toInt) (hok : TOK m hd N) : Sf (fun r => zI r.2 ∧ Fr [(72, 39)] s r.2 ∧ (r.2.1 72 39).toInt = w.toInt + mnV m c0 hd N ∧ ((r.1.toInt = -1 ∧ ∀ j : Nat, j ≤ N → ¬ ATv (mnV m c0 hd) N w.toInt j t.toInt) ∨ (0 ≤ r.1.toInt ∧ ∃ j : Nat, j ≤ N ∧ ATv (mnV m c0 hd) N w.toInt j t.toInt ∧ r.1 = crV m c0 hd j))) (fX12_cornerOf i w t s) := by
  have l0 := L0
  have ln1 := Ln1
  have hfu := fuE
  have z0 : (0 : Int32).toNatClampNeg = 0 := by decide
  have hb := mnV_b hL hJ (c0 := c0) hok
  have hmn0 : mnV m c0 hd 0 = 0 := rfl
  obtain ⟨r, er, -, jr, Fr'⟩ := zX12_cornerOf i w t s ⟨hi.1, hi.2, hw.1, hw.2, ht.1, ht.2⟩ hJ
  have key : Sf (fun r => (r.2.1 72 39).toInt = w.toInt + mnV m c0 hd N ∧ ((r.1.toInt = -1 ∧ ∀ j : Nat, j ≤ N → ¬ ATv (mnV m c0 hd) N w.toInt j t.toInt) ∨ (∃ j : Nat, j ≤ N ∧ ATv (mnV m c0 hd) N w.toInt j t.toInt ∧ r.1 = crV m c0 hd j))) (fX12_cornerOf i w t s) := by
    unfold fX12_cornerOf
    refine s_ix (by omega) ?_
    rw [hT.1]
    refine s_lt (fun g => ?_) (fun g => ?_)
    · refine v_corner hL hI hi hw hT hN hc hok hb sm_fu _ _ _ (0 : Int32) (by omega) (by omega) (by omega) (by rw [z0]; rfl) (by rw [z0, hmn0]; omega) (Or.inl ⟨ln1, fun j hj hA => ?_⟩)
      rw [z0] at hj
      omega
    · exact v_corner hL hI hi hw hT hN hc hok hb sm_fu _ _ _ (0 : Int32) (by omega) (by omega) (by omega) (by rw [z0]; rfl) (by rw [z0, hmn0]; omega) (Or.inr ⟨0, by omega, Or.inl ⟨rfl, g⟩, rfl⟩)
  obtain ⟨r', er', k1, k2⟩ := key
  obtain rfl := Option.some.inj (er.symm.trans er')
  refine ⟨r, er, jr, Fr', k1, ?_⟩
  rcases k2 with k2 | ⟨j, q1, q2, q3⟩
  · exact Or.inl k2
  · exact Or.inr ⟨by rw [q3]; exact crV_b hI hc hd j, j, q1, q2, q3⟩
/-- the reference before, between and behind its looks at the corners -/
def CNv (m s : sm_S) (N1 N2 : Nat) (c1 c2 : Int32) (h1 h2 : Nat → Int32) : Prop := XL m s ∧ zI s ∧ TUv s 0 N1 c1 h1 ∧ TUv s 1 N2 c2 h2
theorem TUv.fr {W : List (Nat × Nat)} {s s' : sm_S} {i N : Nat} {c0 : Int32} {hd : Nat → Int32} (h : TUv s i N c0 hd) (F : Fr W s s') (hn : and (noA W 89) (and (noA W 90) (noA W 91)) = true) : TUv s' i N c0 hd := by
  obtain ⟨n1, hn⟩ := Bool.and_eq_true_iff.mp hn
  obtain ⟨n2, n3⟩ := Bool.and_eq_true_iff.mp hn
  exact ⟨by rw [noA.e F n1]; exact h.1, by rw [noA.e F n2]; exact h.2.1, fun k hk => by rw [noA.e F n3]; exact h.2.2 k hk⟩
theorem CNv.fr {W : List (Nat × Nat)} {m s s' : sm_S} {N1 N2 : Nat} {c1 c2 : Int32} {h1 h2 : Nat → Int32} (h : CNv m s N1 N2 c1 c2 h1 h2) (F : Fr W s s') (hJ : zI s') (hl : nL [] W = true) (hn : and (noA W 89) (and (noA W 90) (noA W 91)) = true) : CNv m s' N1 N2 c1 c2 h1 h2 := ⟨h.1.fr (W := []) Fr.refl F hl, hJ, h.2.2.1.fr F hn, h.2.2.2.fr F hn⟩
/-- two tours with hedges that are there -/
def GDv (m : sm_S) (N1 N2 : Nat) (c1 c2 : Int32) (h1 h2 : Nat → Int32) : Prop := N1 ≤ 29 ∧ N2 ≤ 29 ∧ 0 ≤ c1.toInt ∧ 0 ≤ c2.toInt ∧ TOK m h1 N1 ∧ TOK m h2 N2
theorem v_mb32 {m : sm_S} (hI : zI m) {N1 N2 : Nat} {c1 c2 : Int32} {h1 h2 : Nat → Int32} (hG : GDv m N1 N2 c1 c2 h1 h2) {w v2 : Int32} (hw : 0 ≤ w.toInt ∧ w.toInt ≤ 99) (h2' : v2.toInt ≤ 969) : ∀ (n : Nat) (v3 : Int32) (s : sm_S), CNv m s N1 N2 c1 c2 h1 h2 → 0 ≤ v3.toInt → v3.toInt ≤ 970 → 970 - v3.toInt < (n : Int) → (∀ u : Int, 0 ≤ u → u < v3.toInt → ¬ MMv m N1 N2 c1 c2 h1 h2 w.toInt u) → Sf (fun r => (r.1.toInt = -2 ∧ ∀ u : Int, 0 ≤ u → u ≤ v2.toInt → ¬ MMv m N1 N2 c1 c2 h1 h2 w.toInt u) ∨ (0 ≤ r.1.toInt ∧ r.1.toInt ≤ 969 ∧ MMv m N1 N2 c1 c2 h1 h2 w.toInt r.1.toInt ∧ ∀ u : Int, 0 ≤ u → MMv m N1 N2 c1 c2 h1 h2 w.toInt u → r.1.toInt ≤ u)) (fX12_meetsBy_32 n w v2 v3 s) := by
  have l0 := L0
  have l1 := L1
  have ln2 : (-2 : Int32).toInt = -2 := by decide
  have z0 : (0 : Int32).toNatClampNeg = 0 := by decide
  have z1 : (1 : Int32).toNatClampNeg = 1 := by decide
  obtain ⟨g1, g2, g3, g4, g5, g6⟩ := hG
  intro n
  induction n with
  | zero => intro v3 s hC h3 h33 hn; have hz : ((0 : Nat) : Int) = 0 := rfl; omega
  | succ n ih =>
    intro v3 s hC h3 h33 hn hno
    have hnn : ((n + 1 : Nat) : Int) = (n : Int) + 1 := by omega
    obtain ⟨hL, hJ, hT1, hT2⟩ := hC
    unfold fX12_meetsBy_32
    refine s_lt (fun g => s_ret (Or.inl ⟨ln2, fun u hu hu2 => hno u hu (by omega)⟩)) (fun g => ?_)
    have e3 : (v3 + (1 : Int32)).toInt = v3.toInt + 1 := a_addl L1 (by omega) (by omega)
    have more : ¬ MMv m N1 N2 c1 c2 h1 h2 w.toInt v3.toInt → ∀ u : Int, 0 ≤ u → u < (v3 + (1 : Int32)).toInt → ¬ MMv m N1 N2 c1 c2 h1 h2 w.toInt u := by
      intro hv u hu hu2
      by_cases q : u = v3.toInt
      · rw [q]; exact hv
      · exact hno u hu (by omega)
    refine s_bd (s_corner hL hI hJ (i := (0 : Int32)) (w := (0 : Int32)) (t := v3) (by omega) (by omega) (by omega) (by rw [z0]; exact hT1) g1 g3 g5) (fun r6 h6 => ?_)
    obtain ⟨j6, F6, -, h6⟩ := h6
    have hC6 : CNv m r6.2 N1 N2 c1 c2 h1 h2 := CNv.fr ⟨hL, hJ, hT1, hT2⟩ F6 j6 rfl rfl
    rw [l0] at h6
    refine s_lt (fun g5' => ?_) (fun g5' => ?_)
    · refine ih (v3 + (1 : Int32)) r6.2 hC6 (by omega) (by omega) (by omega) (more (fun hM => ?_))
      rcases h6 with ⟨-, h6⟩ | ⟨h6, -⟩
      · obtain ⟨k, l, hk, hl, e1, e2, e3'⟩ := hM
        exact h6 k hk e2
      · omega
    · rcases h6 with ⟨h6, -⟩ | ⟨-, k, hk, hA, e6⟩
      · omega
      · obtain ⟨hL6, -, -, hT26⟩ := hC6
        refine s_bd (s_corner hL6 hI j6 (i := (1 : Int32)) (w := w) (t := v3) (by omega) hw (by omega) (by rw [z1]; exact hT26) g2 g4 g6) (fun r8 h8 => ?_)
        obtain ⟨j8, F8, -, h8⟩ := h8
        have hC8 : CNv m r8.2 N1 N2 c1 c2 h1 h2 := CNv.fr ⟨hL6, j6, hT1.fr F6 rfl, hT26⟩ F8 j8 rfl rfl
        refine s_if (fun z => s_ret (Or.inr ?_)) (fun z => ?_)
        · rcases h8 with ⟨h8, -⟩ | ⟨-, l, hl, hA8, e8⟩
          · rw [z] at g5'; omega
          · refine ⟨h3, by show v3.toInt ≤ 969; omega, ⟨k, l, hk, hl, by rw [← e6, ← e8]; exact z, hA, hA8⟩, fun u hu hM => ?_⟩
            refine Int.not_lt.mp (fun q => hno u hu q hM)
        · refine ih (v3 + (1 : Int32)) r8.2 hC8 (by omega) (by omega) (by omega) (more (fun hM => ?_))
          obtain ⟨k', l', hk', hl', e1, e2, e3'⟩ := hM
          rcases h8 with ⟨-, h8⟩ | ⟨-, l, hl, hA8, e8⟩
          · exact h8 l' hl' e3'
          · have ek := ATv.uni (mnV_lt hL hJ g5) hk hk' hA e2
            have el := ATv.uni (mnV_lt hL hJ g6) hl hl' hA8 e3'
            subst ek
            subst el
            exact z (by rw [e6, e8]; exact e1)
theorem s_meetsBy {m s : sm_S} (hI : zI m) {N1 N2 : Nat} {c1 c2 : Int32} {h1 h2 : Nat → Int32} (hG : GDv m N1 N2 c1 c2 h1 h2) (hC : CNv m s N1 N2 c1 c2 h1 h2) {w : Int32} (hw : 0 ≤ w.toInt ∧ w.toInt ≤ 99) : Sf (fun r => CNv m r.2 N1 N2 c1 c2 h1 h2 ∧ ((r.1.toInt = -2 ∧ ∀ u : Int, 0 ≤ u → ¬ MMv m N1 N2 c1 c2 h1 h2 w.toInt u) ∨ (0 ≤ r.1.toInt ∧ r.1.toInt ≤ 969 ∧ MMv m N1 N2 c1 c2 h1 h2 w.toInt r.1.toInt ∧ ∀ u : Int, 0 ≤ u → MMv m N1 N2 c1 c2 h1 h2 w.toInt u → r.1.toInt ≤ u))) (fX12_meetsBy w s) := by
  have l0 := L0
  have l1 := L1
  have hfu := fuE
  have z0 : (0 : Int32).toNatClampNeg = 0 := by decide
  have z1 : (1 : Int32).toNatClampNeg = 1 := by decide
  obtain ⟨g1, g2, g3, g4, g5, g6⟩ := hG
  obtain ⟨hL, hJ, hT1, hT2⟩ := hC
  obtain ⟨r, er, -, jr, Fr'⟩ := zX12_meetsBy w s hw hJ
  have b1 := mnV_b hL hJ (c0 := c1) g5
  have b2 := mnV_b hL hJ (c0 := c2) g6
  have key : Sf (fun r => (r.1.toInt = -2 ∧ ∀ u : Int, 0 ≤ u → ¬ MMv m N1 N2 c1 c2 h1 h2 w.toInt u) ∨ (0 ≤ r.1.toInt ∧ r.1.toInt ≤ 969 ∧ MMv m N1 N2 c1 c2 h1 h2 w.toInt r.1.toInt ∧ ∀ u : Int, 0 ≤ u → MMv m N1 N2 c1 c2 h1 h2 w.toInt u → r.1.toInt ≤ u)) (fX12_meetsBy w s) := by
    unfold fX12_meetsBy
    refine s_bd (s_corner hL hI hJ (i := (0 : Int32)) (w := (0 : Int32)) (t := (0 : Int32)) (by omega) (by omega) (by omega) (by rw [z0]; exact hT1) g1 g3 g5) (fun r2 h2' => ?_)
    obtain ⟨j2, F2, k2, -⟩ := h2'
    have hL2 : XL m r2.2 := hL.fr (W := []) Fr.refl F2 rfl
    refine s_bd (s_corner hL2 hI j2 (i := (1 : Int32)) (w := w) (t := (0 : Int32)) (by omega) hw (by omega) (by rw [z1]; exact hT2.fr F2 rfl) g2 g4 g6) (fun r4 h4' => ?_)
    obtain ⟨j4, F4, k4, -⟩ := h4'
    have hL4 : XL m r4.2 := hL2.fr (W := []) Fr.refl F4 rfl
    have bN1 := b1 N1 (Nat.le_refl _)
    have bN2 := b2 N2 (Nat.le_refl _)
    rw [l0] at k2
    have ci : ((r2.2.1 72 39).toInt < (r4.2.1 72 39).toInt ∧ (if (r2.2.1 72 39) < (r4.2.1 72 39) then (r4.2.1 72 39) else (r2.2.1 72 39)).toInt = (r4.2.1 72 39).toInt) ∨ ((r4.2.1 72 39).toInt ≤ (r2.2.1 72 39).toInt ∧ (if (r2.2.1 72 39) < (r4.2.1 72 39) then (r4.2.1 72 39) else (r2.2.1 72 39)).toInt = (r2.2.1 72 39).toInt) := a_ilt
    generalize (if (r2.2.1 72 39) < (r4.2.1 72 39) then (r4.2.1 72 39) else (r2.2.1 72 39)) = V at ci ⊢
    refine s_mono (v_mb32 hI ⟨g1, g2, g3, g4, g5, g6⟩ hw (v2 := V) (by omega) sm_fu (0 : Int32) r4.2 ⟨hL4, j4, (hT1.fr F2 rfl).fr F4 rfl, (hT2.fr F2 rfl).fr F4 rfl⟩ (by omega) (by omega) (by omega) (fun u hu hu2 => by omega)) (fun r hr => ?_)
    rcases hr with ⟨h0, hr⟩ | hr
    · refine Or.inl ⟨h0, fun u hu hM => ?_⟩
      by_cases q : u ≤ V.toInt
      · exact hr u hu q hM
      · obtain ⟨k, l, hk, hl, e1, ⟨a1, a2⟩, ⟨a3, a4⟩⟩ := hM
        have ek : k = N1 := by
          rcases Nat.lt_or_ge k N1 with y | y
          · have := mnV_lt hL hJ (c0 := c1) g5 k N1 y (Nat.le_refl _)
            omega
          · omega
        have el : l = N2 := by
          rcases Nat.lt_or_ge l N2 with y | y
          · have := mnV_lt hL hJ (c0 := c2) g6 l N2 y (Nat.le_refl _)
            omega
          · omega
        subst ek
        subst el
        exact hr V.toInt (by omega) (Int.le_refl _) ⟨k, l, hk, hl, e1, ⟨Or.inr (by omega), Or.inl rfl⟩, ⟨Or.inr (by omega), Or.inl rfl⟩⟩
    · exact Or.inr hr
  obtain ⟨r', er', k1⟩ := key
  obtain rfl := Option.some.inj (er.symm.trans er')
  exact ⟨r, er, CNv.fr ⟨hL, hJ, hT1, hT2⟩ Fr' jr rfl rfl, k1⟩
