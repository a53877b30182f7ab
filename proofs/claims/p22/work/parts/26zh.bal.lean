/-! THE CLASS'S isBalanced -/
theorem cnt_cut {q : Nat → Bool} {n : Nat} : ∀ {N : Nat}, n ≤ N → cnt (fun i => decide (i < n) && q i) N = cnt q n
  | 0, h => by
    have : n = 0 := by omega
    subst this; rfl
  | N + 1, h => by
    by_cases e : n = N + 1
    · subst e
      exact cnt_cong (fun k hk => by rw [decide_eq_true hk]; rfl)
    · have e1 : cnt (fun i => decide (i < n) && q i) (N + 1) = cnt (fun i => decide (i < n) && q i) N + (if (decide (N < n) && q N) = true then 1 else 0) := rfl
      rw [e1, cnt_cut (by omega), decide_eq_false (show ¬ N < n by omega)]; rfl
theorem v_bal2 {m s : sm_S} (hL : XL m s) (hI : zI m) (hJ : zI s) (hC : zC s) (hS : SEv s m (nH s)) {X : Int32} (hX : 0 ≤ X.toInt ∧ X.toInt ≤ 16383) : ∀ (n : Nat) (v3 : Int32), 0 ≤ v3.toInt → v3.toInt ≤ 10 → 10 - v3.toInt < (n : Int) → (∀ v : Nat, (v : Int) < v3.toInt → v < nC s → bal (ta s) (tb s) (fun _ => true) (bt X) v (nH s) = 0) → Sf (fun r => (r.toInt = 1 ∧ BZv s X) ∨ (r.toInt = 0 ∧ ¬ BZv s X)) (fX4_isBalanced_2 n X v3 m) := by
  have l0 := L0
  have l1 := L1
  have e30 := hL.corner
  obtain ⟨eH, eC, bH, bC⟩ := t_n hJ
  intro n
  induction n with
  | zero => intro v3 h0 h1 hn; have hz : ((0 : Nat) : Int) = 0 := rfl; omega
  | succ n ih =>
    intro v3 h0 h1 hn hb
    have hnn : ((n + 1 : Nat) : Int) = (n : Int) + 1 := by omega
    have et := a_tn h0
    unfold fX4_isBalanced_2
    refine s_le (fun g => s_ret (Or.inl ⟨l1, fun v hv => hb v (by omega) hv⟩)) (fun g => ?_)
    have e3 : (v3 + (1 : Int32)).toInt = v3.toInt + 1 := a_addl L1 (by omega) (by omega)
    have hv : v3.toNatClampNeg < nC s := by omega
    have x10 : 0 ≤ v3.toInt ∧ v3.toInt < (10 : Int) := by omega
    have c27 : 0 ≤ (m.1 27 v3.toNatClampNeg).toInt ∧ (m.1 27 v3.toNatClampNeg).toInt ≤ 16383 := hI.1 27 _
    have c28 : 0 ≤ (m.1 28 v3.toNatClampNeg).toInt ∧ (m.1 28 v3.toNatClampNeg).toInt ≤ 16383 := hI.1 28 _
    have o1 := a_or (x := m.1 27 v3.toNatClampNeg) (y := m.1 28 v3.toNatClampNeg) 14 (p := 16384) (by decide) (by decide) c27.1 (by omega) c28.1 (by omega)
    have o2 := a_andl (x := m.1 27 v3.toNatClampNeg) (y := X ^^^ (-1 : Int32)) c27.1
    have o3 := a_andl (x := m.1 28 v3.toNatClampNeg) (y := X) c28.1
    have o4 := a_or (x := (m.1 27 v3.toNatClampNeg) &&& (X ^^^ (-1 : Int32))) (y := (m.1 28 v3.toNatClampNeg) &&& X) 14 (p := 16384) (by decide) (by decide) o2.1 (by omega) o3.1 (by omega)
    refine s_ix x10 (s_ix x10 (s_ix x10 (s_ix x10 ?_)))
    refine s_bd (s_bc14 m ⟨o1.1, by omega⟩) (fun r6 h6 => ?_)
    refine s_bd (s_bc14 m ⟨o4.1, by omega⟩) (fun r8 h8 => ?_)
    have k6 : cnt (bt ((m.1 27 v3.toNatClampNeg) ||| (m.1 28 v3.toNatClampNeg))) 14 = cnt (fun i => decide (ta s i = v3.toNatClampNeg) || decide (tb s i = v3.toNatClampNeg)) (nH s) := by
      rw [← cnt_cut (q := fun i => decide (ta s i = v3.toNatClampNeg) || decide (tb s i = v3.toNatClampNeg)) (n := nH s) (N := 14) bH]
      refine cnt_cong (fun i hi => ?_)
      obtain ⟨p1, p2⟩ := hS _ hv i (by omega)
      rw [b_or, p1, p2]
      cases decide (i < nH s) <;> rfl
    have k8 : cnt (bt (((m.1 27 v3.toNatClampNeg) &&& (X ^^^ (-1 : Int32))) ||| ((m.1 28 v3.toNatClampNeg) &&& X))) 14 = cnt (fun i => (decide (ta s i = v3.toNatClampNeg) && !bt X i) || (decide (tb s i = v3.toNatClampNeg) && bt X i)) (nH s) := by
      rw [← cnt_cut (q := fun i => (decide (ta s i = v3.toNatClampNeg) && !bt X i) || (decide (tb s i = v3.toNatClampNeg) && bt X i)) (n := nH s) (N := 14) bH]
      refine cnt_cong (fun i hi => ?_)
      obtain ⟨p1, p2⟩ := hS _ hv i (by omega)
      rw [b_or, b_and, b_and, b_xor, b_m1 i (by omega), p1, p2]
      cases decide (i < nH s) <;> cases decide (ta s i = v3.toNatClampNeg) <;> cases decide (tb s i = v3.toNatClampNeg) <;> cases bt X i <;> rfl
    have kb := bal_cnt (a := ta s) (b := tb s) (T := bt X) (v := v3.toNatClampNeg) (n := nH s) (fun k hk => (t_ends hJ hC hk).2.2.2.2)
    rw [k6] at h6
    rw [k8] at h8
    rw [← h6, ← h8] at kb
    have c6 : (0 : Int) ≤ r6.toInt ∧ r6.toInt ≤ 14 := by
      have := cnt_le (fun i => decide (ta s i = v3.toNatClampNeg) || decide (tb s i = v3.toNatClampNeg)) (nH s)
      omega
    have c8 : (0 : Int) ≤ r8.toInt ∧ r8.toInt ≤ 14 := by
      have := cnt_le (fun i => (decide (ta s i = v3.toNatClampNeg) && !bt X i) || (decide (tb s i = v3.toNatClampNeg) && bt X i)) (nH s)
      omega
    have e28 : ((2 : Int32) * r8).toInt = 2 * r8.toInt := a_mul L2 rfl (by omega) (by omega)
    refine s_eq (fun g2 => ?_) (fun g2 => s_ret (Or.inr ⟨l0, fun z => ?_⟩))
    · refine ih (v3 + (1 : Int32)) (by omega) (by omega) (by omega) (fun v hv2 hv3 => ?_)
      by_cases q : v = v3.toNatClampNeg
      · subst q; omega
      · exact hb v (by omega) hv3
    · have := z _ hv
      omega
