/-! THE REFERENCE'S COUNT OF COMING AND LEAVING -/
theorem v_even87 (m : sm_S) (hI : zI m) : ∀ (n : Nat) (v2 v3 : Int32), 0 ≤ v3.toInt → v3.toInt ≤ 10 → 10 - v3.toInt < (n : Int) → ((v2.toInt = 1 ∧ ∀ h : Nat, (h : Int) < v3.toInt → h < nC m → (m.1 95 h).toInt = 0) ∨ (v2.toInt = 0 ∧ ¬ ∀ h : Nat, h < nC m → (m.1 95 h).toInt = 0)) → Sf (fun r => (r.1.toInt = 1 ∧ ∀ h : Nat, h < nC m → (m.1 95 h).toInt = 0) ∨ (r.1.toInt = 0 ∧ ¬ ∀ h : Nat, h < nC m → (m.1 95 h).toInt = 0)) (fX12_isEven_87 n v2 v3 m) := by
  have l0 := L0
  have l1 := L1
  obtain ⟨eH, eC, bH, bC⟩ := t_n hI
  intro n
  induction n with
  | zero => intro v2 v3 h1 h2 hn; have hz : ((0 : Nat) : Int) = 0 := rfl; omega
  | succ n ih =>
    intro v2 v3 h1 h2 hn hP
    have hnn : ((n + 1 : Nat) : Int) = (n : Int) + 1 := by omega
    have et := a_tn (x := v3) (by omega)
    unfold fX12_isEven_87
    refine s_le (fun g => ?_) (fun g => ?_)
    · refine s_nb (show (v2).toInt = 0 ∨ (v2).toInt = 1 by rcases hP with ⟨z, -⟩ | ⟨z, -⟩ <;> omega) ?_
      exact s_ret (hP.imp (fun z => ⟨z.1, fun h hh => z.2 h (by omega) hh⟩) id)
    · have e2 : (v3 + (1 : Int32)).toInt = v3.toInt + 1 := a_addl L1 (by omega) (by omega)
      refine s_eq (fun g1 => ?_) (fun g1 => ?_)
      · rcases hP with ⟨z, -⟩ | ⟨-, z⟩
        · omega
        · exact ih (0 : Int32) (v3 + (1 : Int32)) (by omega) (by omega) (by omega) (Or.inr ⟨l0, z⟩)
      · rcases hP with ⟨-, z⟩ | ⟨z, -⟩
        · refine s_ix (by omega) ?_
          refine s_eq (fun g3 => ?_) (fun g3 => ?_)
          · refine ih (1 : Int32) (v3 + (1 : Int32)) (by omega) (by omega) (by omega) (Or.inl ⟨l1, fun h hh hh2 => ?_⟩)
            by_cases q : h = v3.toNatClampNeg
            · subst q; rw [g3]; exact l0
            · exact z h (by omega) hh2
          · exact ih (0 : Int32) (v3 + (1 : Int32)) (by omega) (by omega) (by omega) (Or.inr ⟨l0, fun y => g3 ((y v3.toNatClampNeg (by omega)).trans l0.symm)⟩)
        · omega
theorem two_w {s : sm_S} {ka kb : Nat} {V W : Int32} {d : Int} (hab : ka ≠ kb) (hV : V.toInt = (s.1 95 ka).toInt - d) (hW : W.toInt = (s.1 95 kb).toInt + d) (v : Nat) : ((sm_w1 (sm_w1 s 95 ka V) 95 kb W).1 95 v).toInt = (s.1 95 v).toInt - d * ((if ka = v then 1 else 0) - (if kb = v then 1 else 0)) := by
  by_cases e : v = kb
  · subst e
    rw [r_hit, hW, if_neg hab, if_pos rfl]; omega
  · rw [r_place e, if_neg (show ¬ kb = v from fun z => e z.symm)]
    by_cases e2 : v = ka
    · subst e2
      rw [r_hit, hV, if_pos (show v = v from rfl)]; omega
    · rw [r_place e2, if_neg (show ¬ ka = v from fun z => e2 z.symm)]; omega
theorem be_b {a b : Nat → Nat} (t : Bool) (h v : Nat) : -1 ≤ be a b t h v ∧ be a b t h v ≤ 1 := by
  unfold be
  split <;> split <;> split <;> omega
theorem bal_b {a b : Nat → Nat} {S T : Nat → Bool} {v : Nat} : ∀ {n : Nat}, -(n : Int) ≤ bal a b S T v n ∧ bal a b S T v n ≤ (n : Int)
  | 0 => ⟨Int.le_refl _, Int.le_refl _⟩
  | n + 1 => by
    have e := bal_b (a := a) (b := b) (S := S) (T := T) (v := v) (n := n)
    have e2 := be_b (a := a) (b := b) (T n) n v
    have e3 : bal a b S T v (n + 1) = bal a b S T v n + (if S n = true then be a b (T n) n v else 0) := rfl
    rw [e3]
    split <;> omega
/-- every corner is left as often as it is come to -/
def BZv (s : sm_S) (X : Int32) : Prop := ∀ v : Nat, v < nC s → bal (ta s) (tb s) (fun _ => true) (bt X) v (nH s) = 0
theorem n_m1 (x : Int32) : x - (-1 : Int32) = x + 1 := by rw [Int32.sub_eq_add_neg, Int32.neg_neg]
theorem v_even25 (s0 : sm_S) (hJ0 : zI s0) (hC0 : zC s0) (X : Int32) : ∀ (n : Nat) (v2 : Int32) (s : sm_S), Fr [(95, 999)] s0 s → zI s → 0 ≤ v2.toInt → v2.toInt ≤ (s0.1 72 6).toInt → (s0.1 72 6).toInt - v2.toInt < (n : Int) → (∀ v : Nat, v < nC s0 → (s.1 95 v).toInt = - bal (ta s0) (tb s0) (fun _ => true) (bt X) v v2.toNatClampNeg) → Sf (fun r => (r.1.toInt = 1 ∧ BZv s0 X) ∨ (r.1.toInt = 0 ∧ ¬ BZv s0 X)) (fX12_isEven_25 n X v2 s) := by
  have l0 := L0
  have l1 := L1
  have hfu := fuE
  obtain ⟨eH, eC, bH, bC⟩ := t_n hJ0
  intro n
  induction n with
  | zero => intro v2 s F hJ h1 h2 hn; have hz : ((0 : Nat) : Int) = 0 := rfl; omega
  | succ n ih =>
    intro v2 s F hJ h1 h2 hn hb
    have hnn : ((n + 1 : Nat) : Int) = (n : Int) + 1 := by omega
    have et := a_tn h1
    have e6 : (s.1 72 6).toInt = (s0.1 72 6).toInt := congrArg Int32.toInt (F 72 6 rfl)
    have enC : nC s = nC s0 := by unfold nC; rw [F 72 3 rfl]
    unfold fX12_isEven_25
    simp only [a_m1, n_m1]
    refine s_le (fun g => ?_) (fun g => ?_)
    · have e2 : v2.toNatClampNeg = nH s0 := by omega
      rw [e2] at hb
      have key : (∀ h : Nat, h < nC s → (s.1 95 h).toInt = 0) ↔ BZv s0 X := by
        rw [enC]
        exact ⟨fun z v hv => by have := hb v hv; have := z v hv; omega, fun z v hv => by have := hb v hv; have := z v hv; omega⟩
      refine s_mono (v_even87 s hJ sm_fu (1 : Int32) (0 : Int32) (by omega) (by omega) (by omega) (Or.inl ⟨l1, fun h hh => by omega⟩)) (fun r hr => ?_)
      rw [key] at hr
      exact hr
    · have e2 : (v2 + (1 : Int32)).toInt = v2.toInt + 1 := a_addl L1 (by omega) (by omega)
      have hs2 : (v2 + (1 : Int32)).toNatClampNeg = v2.toNatClampNeg + 1 := by
        have := a_tn (x := v2 + (1 : Int32)) (by omega)
        omega
      obtain ⟨a1, b1, a2, b2, ab⟩ := t_ends hJ0 hC0 (h := v2.toNatClampNeg) (by omega)
      have q76 : s.1 76 v2.toNatClampNeg = s0.1 76 v2.toNatClampNeg := F 76 _ rfl
      have q77 : s.1 77 v2.toNatClampNeg = s0.1 77 v2.toNatClampNeg := F 77 _ rfl
      rw [q76, q77]
      have ka : (s0.1 76 v2.toNatClampNeg).toNatClampNeg = ta s0 v2.toNatClampNeg := rfl
      have kb : (s0.1 77 v2.toNatClampNeg).toNatClampNeg = tb s0 v2.toNatClampNeg := rfl
      have x14 : 0 ≤ v2.toInt ∧ v2.toInt < (14 : Int) := by omega
      have xa : 0 ≤ (s0.1 76 v2.toNatClampNeg).toInt ∧ (s0.1 76 v2.toNatClampNeg).toInt < (10 : Int) := by omega
      have xb : 0 ≤ (s0.1 77 v2.toNatClampNeg).toInt ∧ (s0.1 77 v2.toNatClampNeg).toInt < (10 : Int) := by omega
      have va := hb _ a2
      have vb := hb _ b2
      have ba := bal_b (a := ta s0) (b := tb s0) (S := fun _ => true) (T := bt X) (v := ta s0 v2.toNatClampNeg) (n := v2.toNatClampNeg)
      have bb := bal_b (a := ta s0) (b := tb s0) (S := fun _ => true) (T := bt X) (v := tb s0 v2.toNatClampNeg) (n := v2.toNatClampNeg)
      refine s_bd (zX12_has2 X v2 s (by omega)) (fun r4 h4 => ?_)
      refine s_eq (fun g4 => ?_) (fun g4 => ?_)
      · have hX := has_f h4 (by omega)
        refine s_ix x14 (s_ix xa (s_ix xa (s_ix x14 (s_ix xb (s_ix xb ?_)))))
        rw [ka, kb, r_place (fun z => ab z.symm)]
        refine ih (v2 + (1 : Int32)) _ (Fr.w (Fr.w F rfl) rfl) (zI.w (zI.w hJ rfl (rg _)) rfl (rg _)) (by omega) (by omega) (by omega) (fun v hv => ?_)
        rw [two_w (d := 1) ab (a_subl L1 (by omega) (by omega)) (a_addl L1 (by omega) (by omega)) v, hb v hv, hs2]
        have e3 : bal (ta s0) (tb s0) (fun _ => true) (bt X) v (v2.toNatClampNeg + 1) = bal (ta s0) (tb s0) (fun _ => true) (bt X) v v2.toNatClampNeg + be (ta s0) (tb s0) (bt X v2.toNatClampNeg) v2.toNatClampNeg v := rfl
        rw [e3, hX]
        unfold be
        rw [if_neg (show ¬ (false = true) by decide)]
        omega
      · have hX := has_t h4 (by omega)
        refine s_ix x14 (s_ix xa (s_ix xa (s_ix x14 (s_ix xb (s_ix xb ?_)))))
        rw [ka, kb, r_place (fun z => ab z.symm)]
        refine ih (v2 + (1 : Int32)) _ (Fr.w (Fr.w F rfl) rfl) (zI.w (zI.w hJ rfl (rg _)) rfl (rg _)) (by omega) (by omega) (by omega) (fun v hv => ?_)
        rw [two_w (d := -1) ab ((a_addl L1 (by omega) (by omega)).trans (by omega)) ((a_subl L1 (by omega) (by omega)).trans (by omega)) v, hb v hv, hs2]
        have e3 : bal (ta s0) (tb s0) (fun _ => true) (bt X) v (v2.toNatClampNeg + 1) = bal (ta s0) (tb s0) (fun _ => true) (bt X) v v2.toNatClampNeg + be (ta s0) (tb s0) (bt X v2.toNatClampNeg) v2.toNatClampNeg v := rfl
        rw [e3, hX]
        unfold be
        rw [if_pos (show true = true from rfl)]
        omega
