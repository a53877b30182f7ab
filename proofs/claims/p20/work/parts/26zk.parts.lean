/-! THE PARTS OF THE LAND, with what each label is (as 25d, and tPI kept) -/
theorem zpu_35 (m0 : sm_S) (X : Int32) (k25 : Int32 → Int32 → sm_S → Option sm_S) (N25 : Nat) (hk : ∀ (v2 : Int32) (m : sm_S), (0 ≤ v2.toInt ∧ v2.toInt ≤ 10 ∧ 10 - v2.toInt < (N25 : Int)) → zI m → zC m → tPI m X → tQ m X v2.toNatClampNeg → Fr wX12_parts m0 m → Sf (fun r => zI r ∧ Fr wX12_parts m0 r ∧ (tPF r X ∧ tPI r X)) (k25 X v2 m)) (hX : 0 ≤ X.toInt ∧ X.toInt ≤ 16383) (l0 : Nat → Int) : ∀ (n : Nat) (v2 v3 : Int32) (m : sm_S), (0 ≤ v2.toInt ∧ v2.toInt ≤ 9 ∧ 0 ≤ v3.toInt ∧ v3.toInt ≤ (nH m : Int) ∧ 14 - v3.toInt < (n : Int) ∧ 10 - v2.toInt ≤ (N25 : Int)) → (∀ y, y < nC m → tl m y ≤ l0 y) → (∀ h : Nat, (h : Int) < v3.toInt → bt X h = true → tl m (ta m h) ≤ l0 (tb m h) ∧ tl m (tb m h) ≤ l0 (ta m h)) → (∀ y, y < nC m → ∃ k : Nat, l0 y = (k : Int) ∧ k ≤ y ∧ tcn m X y k) → tPI m X → (∀ r, r < nC m → (∀ y, y < nC m → tcn m X r y → r ≤ y) → (∀ y, y < nC m → tcn m X r y → l0 y = (r : Int)) ∨ v2.toNatClampNeg + 1 ≤ cnt (fun y => decide (l0 y = (r : Int))) (nC m)) → zI m → zC m → Fr wX12_parts m0 m → Sf (fun r => zI r ∧ Fr wX12_parts m0 r ∧ (tPF r X ∧ tPI r X)) (fX12_parts_35 k25 n X v2 v3 m) := by
  intro n
  induction n with
  | zero =>
    intro v2 v3 m hp hM hE h0 hP hQ hI hC hF
    have := t_n hI
    omega
  | succ n ih =>
    intro v2 v3 m hp hM hE h0 hP hQ hI hC hF
    have hnn : ((n + 1 : Nat) : Int) = (n : Int) + 1 := by omega
    have l00 := L0
    obtain ⟨eH, eC, bH, bC⟩ := t_n hI
    have e1 : (v3 + (1 : Int32)).toInt = v3.toInt + 1 := a_addl L1 (by omega) (by omega)
    unfold fX12_parts_35
    refine s_le (fun h3 => ?_) (fun h3 => ?_)
    · have e2 : (v2 + (1 : Int32)).toInt = v2.toInt + 1 := a_addl L1 (by omega) (by omega)
      have t2 := a_tn (x := v2) (by omega)
      have t3 := a_tn (x := v2 + (1 : Int32)) (by omega)
      refine hk (v2 + (1 : Int32)) m (by omega) hI hC hP (fun r hr hmin => ?_) hF
      have := turn (a := ta m) (b := tb m) (n := nH m) (C := nC m) (S := bt X) (l0 := l0) (l1 := tl m) (T := v2.toNatClampNeg) (fun h hh _ => ⟨(t_ends hI hC hh).2.2.1, (t_ends hI hC hh).2.2.2.1⟩) hM (fun h hh hs => hE h (by omega) hs) h0 hP hr hmin (hQ r hr hmin)
      rw [show (v2 + (1 : Int32)).toNatClampNeg = v2.toNatClampNeg + 1 by omega]
      exact this
    · have x14 : 0 ≤ v3.toInt ∧ v3.toInt < (14 : Int) := by omega
      have t3 := a_tn (x := v3) x14.1
      have hv : v3.toNatClampNeg < nH m := by omega
      obtain ⟨a1, b1, a2, b2, ab⟩ := t_ends hI hC hv
      refine s_bd (zX12_has2 X v3 m (by omega)) (fun r2 h2 => ?_)
      refine s_eq (fun h4 => ?_) (fun h4 => ?_)
      · refine ih v2 (v3 + (1 : Int32)) m (by omega) hM (fun h hh hs => ?_) h0 hP hQ hI hC hF
        by_cases e : h = v3.toNatClampNeg
        · subst e; rw [has_f h2 (by omega)] at hs; cases hs
        · exact hE h (by omega) hs
      · have hb := has_t h2 (by omega)
        have xa : 0 ≤ (m.1 76 v3.toNatClampNeg).toInt ∧ (m.1 76 v3.toNatClampNeg).toInt < (10 : Int) := by omega
        have xb : 0 ≤ (m.1 77 v3.toNatClampNeg).toInt ∧ (m.1 77 v3.toNatClampNeg).toInt < (10 : Int) := by omega
        refine s_ix x14 (s_ix xa (s_ix x14 (s_ix xb (s_ix x14 (s_ix xa (s_ix x14 (s_ix xb ?_)))))))
        have hmn := a_ilt (x := m.1 94 (m.1 77 v3.toNatClampNeg).toNatClampNeg) (y := m.1 94 (m.1 76 v3.toNatClampNeg).toNatClampNeg) (a := m.1 94 (m.1 77 v3.toNatClampNeg).toNatClampNeg) (b := m.1 94 (m.1 76 v3.toNatClampNeg).toNatClampNeg)
        have q94 : ∀ y, 0 ≤ (m.1 94 y).toInt ∧ (m.1 94 y).toInt ≤ 9 := fun y => hI.1 94 y
        have qa := q94 (m.1 76 v3.toNatClampNeg).toNatClampNeg
        have qb := q94 (m.1 77 v3.toNatClampNeg).toNatClampNeg
        have key : ∀ w : Int32, w.toInt = min (tl m (ta m v3.toNatClampNeg)) (tl m (tb m v3.toNatClampNeg)) → Sf (fun r => zI r ∧ Fr wX12_parts m0 r ∧ (tPF r X ∧ tPI r X)) (fX12_parts_35 k25 n X v2 (v3 + (1 : Int32)) (sm_w1 (sm_w1 m 94 (m.1 76 v3.toNatClampNeg).toNatClampNeg w) 94 (m.1 77 v3.toNatClampNeg).toNatClampNeg w)) := by
          intro w hw
          have qta : tl m (ta m v3.toNatClampNeg) = (m.1 94 (m.1 76 v3.toNatClampNeg).toNatClampNeg).toInt := rfl
          have qtb : tl m (tb m v3.toNatClampNeg) = (m.1 94 (m.1 77 v3.toNatClampNeg).toNatClampNeg).toInt := rfl
          have lab : ∀ y, tl (sm_w1 (sm_w1 m 94 (m.1 76 v3.toNatClampNeg).toNatClampNeg w) 94 (m.1 77 v3.toNatClampNeg).toNatClampNeg w) y = if y = ta m v3.toNatClampNeg ∨ y = tb m v3.toNatClampNeg then w.toInt else tl m y := by
            intro y
            unfold tl
            by_cases e2 : y = tb m v3.toNatClampNeg
            · rw [if_pos (Or.inr e2), e2]; exact congrArg Int32.toInt r_hit
            · rw [r_place (show y ≠ (m.1 77 v3.toNatClampNeg).toNatClampNeg from e2)]
              by_cases e3 : y = ta m v3.toNatClampNeg
              · rw [if_pos (Or.inl e3), e3]; exact congrArg Int32.toInt r_hit
              · rw [if_neg (fun z => z.elim e3 e2), r_place (show y ≠ (m.1 76 v3.toNatClampNeg).toNatClampNeg from e3)]
          have labM : ∀ y, tl (sm_w1 (sm_w1 m 94 (m.1 76 v3.toNatClampNeg).toNatClampNeg w) 94 (m.1 77 v3.toNatClampNeg).toNatClampNeg w) y ≤ tl m y := by
            intro y
            rw [lab y]
            by_cases e : y = ta m v3.toNatClampNeg ∨ y = tb m v3.toNatClampNeg
            · rw [if_pos e]
              rcases e with e | e <;> rw [e] <;> omega
            · rw [if_neg e]; exact Int.le_refl _
          have hMa := hM (ta m v3.toNatClampNeg) a2
          have hMb := hM (tb m v3.toNatClampNeg) b2
          have f2 : Fr [(94, 999)] m (sm_w1 (sm_w1 m 94 (m.1 76 v3.toNatClampNeg).toNatClampNeg w) 94 (m.1 77 v3.toNatClampNeg).toNatClampNeg w) := Fr.w (Fr.w Fr.refl rfl) rfl
          have hw9 : 0 ≤ w.toInt ∧ w.toInt ≤ 9 := by omega
          refine ih v2 (v3 + (1 : Int32)) _ (show _ ∧ _ ∧ _ ∧ (v3 + (1 : Int32)).toInt ≤ (nH m : Int) ∧ _ ∧ _ by omega) (fun y hy => Int.le_trans (labM y) (hM y hy)) (fun h hh hs => ?_) h0 (fun y hy => ?_) hQ (zI.w (zI.w hI rfl hw9) rfl hw9) (zC.fr hC f2 rfl) (Fr.w (Fr.w hF rfl) rfl)
          · show tl (sm_w1 (sm_w1 m 94 (m.1 76 v3.toNatClampNeg).toNatClampNeg w) 94 (m.1 77 v3.toNatClampNeg).toNatClampNeg w) (ta m h) ≤ l0 (tb m h) ∧ tl (sm_w1 (sm_w1 m 94 (m.1 76 v3.toNatClampNeg).toNatClampNeg w) 94 (m.1 77 v3.toNatClampNeg).toNatClampNeg w) (tb m h) ≤ l0 (ta m h)
            by_cases e : h = v3.toNatClampNeg
            · subst e
              rw [lab, lab, if_pos (Or.inl rfl), if_pos (Or.inr rfl)]
              omega
            · have q := hE h (by omega) hs
              exact ⟨Int.le_trans (labM _) q.1, Int.le_trans (labM _) q.2⟩
          · show ∃ k : Nat, tl (sm_w1 (sm_w1 m 94 (m.1 76 v3.toNatClampNeg).toNatClampNeg w) 94 (m.1 77 v3.toNatClampNeg).toNatClampNeg w) y = (k : Int) ∧ k ≤ y ∧ tcn m X y k
            rw [lab y]
            obtain ⟨ka, ea, la, ca⟩ := hP _ a2
            obtain ⟨kb, eb, lb, cb⟩ := hP _ b2
            have hed : tcn m X (ta m v3.toNatClampNeg) (tb m v3.toNatClampNeg) := cn.edge hv hb
            by_cases e : y = ta m v3.toNatClampNeg ∨ y = tb m v3.toNatClampNeg
            · rw [if_pos e]
              obtain ⟨ky, ey, ly, cy⟩ := hP y hy
              by_cases q : tl m (ta m v3.toNatClampNeg) ≤ tl m (tb m v3.toNatClampNeg)
              · refine ⟨ka, by omega, ?_, ?_⟩
                · rcases e with e | e
                  · subst e; omega
                  · subst e; omega
                · rcases e with e | e
                  · rw [e]; exact ca
                  · rw [e]; exact hed.symm.trans ca
              · refine ⟨kb, by omega, ?_, ?_⟩
                · rcases e with e | e
                  · subst e; omega
                  · subst e; omega
                · rcases e with e | e
                  · rw [e]; exact hed.trans cb
                  · rw [e]; exact cb
            · rw [if_neg e]; exact hP y hy
        refine key _ ?_
        show _ = min (m.1 94 (m.1 76 v3.toNatClampNeg).toNatClampNeg).toInt (m.1 94 (m.1 77 v3.toNatClampNeg).toNatClampNeg).toInt
        omega
theorem zpu_25 (m0 : sm_S) (X : Int32) (hX : 0 ≤ X.toInt ∧ X.toInt ≤ 16383) : ∀ (n : Nat) (v2 : Int32) (m : sm_S), (0 ≤ v2.toInt ∧ v2.toInt ≤ 10 ∧ 10 - v2.toInt < (n : Int)) → zI m → zC m → tPI m X → tQ m X v2.toNatClampNeg → Fr wX12_parts m0 m → Sf (fun r => zI r ∧ Fr wX12_parts m0 r ∧ (tPF r X ∧ tPI r X)) (fX12_parts_25 n X v2 m) := by
  intro n
  induction n with
  | zero => intro v2 m hp hI hC hP hQ hF; omega
  | succ n ih =>
    intro v2 m hp hI hC hP hQ hF
    have hnn : ((n + 1 : Nat) : Int) = (n : Int) + 1 := by omega
    have hfu := fuE
    have l0 := L0
    obtain ⟨eH, eC, bH, bC⟩ := t_n hI
    have t2 := a_tn (x := v2) (by omega)
    unfold fX12_parts_25
    refine s_le (fun h3 => s_ret ⟨hI, hF, ⟨tPF.of hP hQ (by omega), hP⟩⟩) (fun h3 => ?_)
    exact zpu_35 m0 X (fX12_parts_25 n) n ih hX (tl m) sm_fu v2 (0 : Int32) m (by omega) (fun y _ => Int.le_refl _) (fun h hh _ => by omega) hP hP hQ hI hC hF
theorem zpu_2 (m0 : sm_S) (X : Int32) (hX : 0 ≤ X.toInt ∧ X.toInt ≤ 16383) : ∀ (n : Nat) (v2 : Int32) (m : sm_S), (0 ≤ v2.toInt ∧ v2.toInt ≤ (nC m : Int) ∧ 10 - v2.toInt < (n : Int)) → (∀ y : Nat, (y : Int) < v2.toInt → tl m y = (y : Int)) → zI m → zC m → Fr wX12_parts m0 m → Sf (fun r => zI r ∧ Fr wX12_parts m0 r ∧ (tPF r X ∧ tPI r X)) (fX12_parts_2 n X v2 m) := by
  intro n
  induction n with
  | zero =>
    intro v2 m hp hy hI hC hF
    have := t_n hI
    omega
  | succ n ih =>
    intro v2 m hp hy hI hC hF
    have hnn : ((n + 1 : Nat) : Int) = (n : Int) + 1 := by omega
    have hfu := fuE
    have l0 := L0
    obtain ⟨eH, eC, bH, bC⟩ := t_n hI
    unfold fX12_parts_2
    refine s_le (fun h3 => ?_) (fun h3 => ?_)
    · have t0 : (0 : Int32).toNatClampNeg = 0 := rfl
      refine zpu_25 m0 X hX sm_fu (0 : Int32) m (by omega) hI hC (fun y hy2 => ⟨y, hy y (by omega), Nat.le_refl _, cn.refl⟩) (fun r hr _ => Or.inr ?_) hF
      rw [t0]
      have := cnt_lt (p := fun _ => false) (q := fun y => decide (tl m y = (r : Int))) (n := nC m) r (fun _ _ h => by cases h) hr rfl (decide_eq_true (hy r (by omega)))
      omega
    · have hx : 0 ≤ v2.toInt ∧ v2.toInt < (10 : Int) := by omega
      have e1 : (v2 + (1 : Int32)).toInt = v2.toInt + 1 := a_addl L1 (by omega) (by omega)
      have t2 := a_tn hx.1
      have f2 : Fr [(94, 999)] m (sm_w1 m 94 v2.toNatClampNeg v2) := Fr.w Fr.refl rfl
      refine s_ix hx (ih (v2 + (1 : Int32)) _ (show _ ∧ (v2 + (1 : Int32)).toInt ≤ (nC m : Int) ∧ _ by omega) (fun y hq => ?_) (zI.w hI rfl (show 0 ≤ v2.toInt ∧ v2.toInt ≤ 9 by omega)) (zC.fr hC f2 rfl) (Fr.w hF rfl))
      unfold tl
      by_cases e : y = v2.toNatClampNeg
      · rw [e, r_hit]; omega
      · rw [r_place e]; exact hy y (by omega)
theorem zpu (X : Int32) (m : sm_S) (hX : 0 ≤ X.toInt ∧ X.toInt ≤ 16383) (hI : zI m) (hC : zC m) : Sf (fun r => zI r ∧ Fr wX12_parts m r ∧ (tPF r X ∧ tPI r X)) (fX12_parts X m) := by
  have hfu := fuE
  have l0 := L0
  unfold fX12_parts
  exact zpu_2 m X hX sm_fu (0 : Int32) m (by omega) (fun y hq => by omega) hI hC Fr.refl
