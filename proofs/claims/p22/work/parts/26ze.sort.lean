/-! THE CLASS'S BITS OF THE HEDGES AT EACH CORNER -/
theorem grow_b {a : Nat → Nat} {k v i : Nat} {o n : Bool} (ho : o = (decide (i < k) && decide (a i = v))) (hn : n = (if v = a k then (o || decide (i = k)) else o)) : n = (decide (i < k + 1) && decide (a i = v)) := by
  rw [hn, ho]
  by_cases e : i = k
  · subst e
    by_cases e2 : v = a i
    · rw [if_pos e2, decide_eq_true (p := i = i) rfl, Bool.or_true, decide_eq_true (show i < i + 1 by omega), decide_eq_true (show a i = v from e2.symm)]; rfl
    · rw [if_neg e2, decide_eq_false (show ¬ i < i by omega), decide_eq_false (show ¬ a i = v from fun z => e2 z.symm)]; simp
  · have e3 : decide (i < k + 1) = decide (i < k) := decide_eq_decide.mpr (by omega)
    rw [e3, decide_eq_false e, Bool.or_false]
    split <;> rfl
/-- the bits of the hedges below k that begin (27) and end (28) at each corner -/
def SEv (s m : sm_S) (k : Nat) : Prop := ∀ v : Nat, v < nC s → ∀ i : Nat, i < 32 → bt (m.1 27 v) i = (decide (i < k) && decide (ta s i = v)) ∧ bt (m.1 28 v) i = (decide (i < k) && decide (tb s i = v))
theorem v_sort32 {m0 s : sm_S} (hL : XL m0 s) (hI0 : zI m0) (hJ : zI s) (hC : zC s) : ∀ (n : Nat) (v2 : Int32) (m r : sm_S), Fr [(27, 999), (28, 999)] m0 m → 0 ≤ v2.toInt → v2.toInt ≤ (m0.1 3 1).toInt → SEv s m v2.toNatClampNeg → fX4_sortEnds_32 n v2 m = some r → SEv s r (nH s) := by
  have e31 := hL.hedge
  have c31 : 0 ≤ (m0.1 3 1).toInt ∧ (m0.1 3 1).toInt ≤ 14 := hI0.1 3 1
  obtain ⟨eH, eC, bH, bC⟩ := t_n hJ
  intro n
  induction n with
  | zero => intro v2 m r F h0 h1 hb h; cases h
  | succ n ih =>
    intro v2 m r F h0 h1 hb h
    have et := a_tn h0
    have f31 : (m.1 3 1).toInt = (m0.1 3 1).toInt := congrArg Int32.toInt (F 3 1 rfl)
    unfold fX4_sortEnds_32 at h
    by_cases g : (m.1 3 1) ≤ v2
    · have g' := leI.mp g
      rw [if_pos g] at h
      obtain rfl := Option.some.inj h
      rw [show nH s = v2.toNatClampNeg by omega]; exact hb
    · have g' := Int.not_le.mp (fun z => g (leI.mpr z))
      have e2 : (v2 + (1 : Int32)).toInt = v2.toInt + 1 := a_addl L1 (by omega) (by omega)
      have hs2 : (v2 + (1 : Int32)).toNatClampNeg = v2.toNatClampNeg + 1 := by
        have := a_tn (x := v2 + (1 : Int32)) (by omega)
        omega
      obtain ⟨a1, b1, a2, b2, ab⟩ := t_ends hJ hC (h := v2.toNatClampNeg) (by omega)
      obtain ⟨q1, q2, -⟩ := hL.row h0 (by omega)
      have q6 : m.1 6 v2.toNatClampNeg = s.1 76 v2.toNatClampNeg := (F 6 _ rfl).trans q1
      have q7 : m.1 7 v2.toNatClampNeg = s.1 77 v2.toNatClampNeg := (F 7 _ rfl).trans q2
      have x14 : 0 ≤ v2.toInt ∧ v2.toInt < ((14 : Nat) : Int) := by omega
      have xa : 0 ≤ (s.1 76 v2.toNatClampNeg).toInt ∧ (s.1 76 v2.toNatClampNeg).toInt < ((10 : Nat) : Int) := by omega
      have xb : 0 ≤ (s.1 77 v2.toNatClampNeg).toInt ∧ (s.1 77 v2.toNatClampNeg).toInt < ((10 : Nat) : Int) := by omega
      have ka : (s.1 76 v2.toNatClampNeg).toNatClampNeg = ta s v2.toNatClampNeg := rfl
      have kb : (s.1 77 v2.toNatClampNeg).toNatClampNeg = tb s v2.toNatClampNeg := rfl
      rw [if_neg g, if_pos (ix_in x14), q6, if_pos (ix_in xa), if_pos (ix_in xa), if_pos (ix_in x14), q7, if_pos (ix_in xb), if_pos (ix_in xb), ka, kb] at h
      refine ih (v2 + (1 : Int32)) _ r (Fr.w (Fr.w F rfl) rfl) (by omega) (by omega) (fun v hv i hi => ?_) h
      obtain ⟨o1, o2⟩ := hb v hv i hi
      rw [hs2]
      refine ⟨grow_b o1 ?_, grow_b o2 ?_⟩
      · rw [r_cell (by decide)]
        by_cases q : v = ta s v2.toNatClampNeg
        · rw [if_pos q, q, r_hit, b_or, b_pow (by omega) (by omega) hi]
        · rw [if_neg q, r_place q]
      · by_cases q : v = tb s v2.toNatClampNeg
        · rw [if_pos q, q, r_hit, b_or, b_pow (by omega) (by omega) hi]
        · rw [if_neg q, r_place q, r_cell (by decide)]
theorem v_sort2 {m0 s : sm_S} (hL : XL m0 s) (hI0 : zI m0) (hJ : zI s) (hC : zC s) : ∀ (n : Nat) (v2 : Int32) (m r : sm_S), Fr [(27, 999), (28, 999)] m0 m → 0 ≤ v2.toInt → v2.toInt ≤ 10 → (∀ v : Nat, (v : Int) < v2.toInt → m.1 27 v = 0 ∧ m.1 28 v = 0) → fX4_sortEnds_2 n v2 m = some r → SEv s r (nH s) := by
  have l0 := L0
  have z0 : (0 : Int32).toNatClampNeg = 0 := by decide
  have e30 := hL.corner
  have c30 : 0 ≤ (m0.1 3 0).toInt ∧ (m0.1 3 0).toInt ≤ 10 := hI0.1 3 0
  have c31 : 0 ≤ (m0.1 3 1).toInt ∧ (m0.1 3 1).toInt ≤ 14 := hI0.1 3 1
  obtain ⟨eH, eC, bH, bC⟩ := t_n hJ
  intro n
  induction n with
  | zero => intro v2 m r F h0 h1 hb h; cases h
  | succ n ih =>
    intro v2 m r F h0 h1 hb h
    have et := a_tn h0
    have f30 : (m.1 3 0).toInt = (m0.1 3 0).toInt := congrArg Int32.toInt (F 3 0 rfl)
    unfold fX4_sortEnds_2 at h
    by_cases g : (m.1 3 0) ≤ v2
    · have g' := leI.mp g
      rw [if_pos g] at h
      refine v_sort32 hL hI0 hJ hC sm_fu (0 : Int32) m r F (by omega) (by omega) (fun v hv i hi => ?_) h
      obtain ⟨p1, p2⟩ := hb v (by omega)
      rw [p1, p2, b_0, z0, decide_eq_false (Nat.not_lt_zero i), Bool.false_and, Bool.false_and]
      exact ⟨rfl, rfl⟩
    · have g' := Int.not_le.mp (fun z => g (leI.mpr z))
      have e2 : (v2 + (1 : Int32)).toInt = v2.toInt + 1 := a_addl L1 (by omega) (by omega)
      have x10 : 0 ≤ v2.toInt ∧ v2.toInt < ((10 : Nat) : Int) := by omega
      rw [if_neg g, if_pos (ix_in x10), if_pos (ix_in x10)] at h
      refine ih (v2 + (1 : Int32)) _ r (Fr.w (Fr.w F rfl) rfl) (by omega) (by omega) (fun v hv => ?_) h
      by_cases q : v = v2.toNatClampNeg
      · subst q
        exact ⟨by rw [r_cell (by decide), r_hit], by rw [r_hit]⟩
      · rw [r_cell (by decide), r_place q, r_place q, r_cell (by decide)]
        exact hb v (by omega)
theorem s_sort {m s : sm_S} (hL : XL m s) (hI : zI m) (hJ : zI s) (hC : zC s) : Sf (fun r => SEv s r (nH s) ∧ zI r ∧ Fr wX4_sortEnds m r) (fX4_sortEnds m) := by
  have l0 := L0
  obtain ⟨r, er, -, ir, F'⟩ := zX4_sortEnds m hI
  have e2 := er
  unfold fX4_sortEnds at e2
  exact ⟨r, er, v_sort2 hL hI hJ hC sm_fu (0 : Int32) m r Fr.refl (by omega) (by omega) (fun v hv => by omega) e2, ir, F'⟩
