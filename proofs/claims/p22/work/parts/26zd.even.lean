theorem v_even2 (s0 : sm_S) (hJ0 : zI s0) (hC0 : zC s0) (X : Int32) : ∀ (n : Nat) (v2 : Int32) (s : sm_S), Fr [(95, 999)] s0 s → zI s → 0 ≤ v2.toInt → v2.toInt ≤ 10 → 10 - v2.toInt < (n : Int) → (∀ v : Nat, (v : Int) < v2.toInt → (s.1 95 v).toInt = 0) → Sf (fun r => (r.1.toInt = 1 ∧ BZv s0 X) ∨ (r.1.toInt = 0 ∧ ¬ BZv s0 X)) (fX12_isEven_2 n X v2 s) := by
  have l0 := L0
  have l1 := L1
  have hfu := fuE
  have z0 : (0 : Int32).toNatClampNeg = 0 := by decide
  obtain ⟨eH, eC, bH, bC⟩ := t_n hJ0
  intro n
  induction n with
  | zero => intro v2 s F hJ h1 h2 hn; have hz : ((0 : Nat) : Int) = 0 := rfl; omega
  | succ n ih =>
    intro v2 s F hJ h1 h2 hn hb
    have hnn : ((n + 1 : Nat) : Int) = (n : Int) + 1 := by omega
    have et := a_tn h1
    have e3 : (s.1 72 3).toInt = (s0.1 72 3).toInt := congrArg Int32.toInt (F 72 3 rfl)
    have cH : 0 ≤ (s0.1 72 6).toInt ∧ (s0.1 72 6).toInt ≤ 14 := hJ0.1 72 6
    unfold fX12_isEven_2
    refine s_le (fun g => ?_) (fun g => ?_)
    · refine v_even25 s0 hJ0 hC0 X sm_fu (0 : Int32) s F hJ (by omega) (by omega) (by omega) (fun v hv => ?_)
      rw [z0, hb v (by omega)]
      rfl
    · have e2 : (v2 + (1 : Int32)).toInt = v2.toInt + 1 := a_addl L1 (by omega) (by omega)
      refine s_ix (by omega) ?_
      refine ih (v2 + (1 : Int32)) _ (Fr.w F rfl) (zI.w hJ rfl (rg _)) (by omega) (by omega) (by omega) (fun v hv => ?_)
      by_cases q : v = v2.toNatClampNeg
      · subst q; rw [r_hit]; exact l0
      · rw [r_place q]; exact hb v (by omega)
/-- the reference: whether the turning leaves each corner as often as it comes to it -/
theorem s_even {s : sm_S} (hJ : zI s) (hC : zC s) {X : Int32} (hX : 0 ≤ X.toInt ∧ X.toInt ≤ 16383) : Sf (fun r => ((r.1.toInt = 1 ∧ BZv s X) ∨ (r.1.toInt = 0 ∧ ¬ BZv s X)) ∧ zI r.2 ∧ Fr [(95, 999)] s r.2) (fX12_isEven X s) := by
  have l0 := L0
  have hfu := fuE
  obtain ⟨r, er, -, jr, F'⟩ := zX12_isEven X s hX hJ
  obtain ⟨r', er', k1⟩ : Sf (fun r => (r.1.toInt = 1 ∧ BZv s X) ∨ (r.1.toInt = 0 ∧ ¬ BZv s X)) (fX12_isEven X s) := by
    unfold fX12_isEven
    exact v_even2 s hJ hC X sm_fu (0 : Int32) s Fr.refl hJ (by omega) (by omega) (by omega) (fun v hv => by omega)
  obtain rfl := Option.some.inj (er.symm.trans er')
  exact ⟨r, er, k1, jr, F'⟩
