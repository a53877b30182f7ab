/-! THE LEAST TURNING, in both -/
def wndV (s : sm_S) (X : Int32) : Nat → Int
  | 0 => 0
  | k + 1 => wndV s X k + (if bt X k = true then (s.1 82 k).toInt else 0)
def mntV (s : sm_S) : Nat → Int
  | 0 => 0
  | k + 1 => mntV s k + (s.1 78 k).toInt
theorem wm_b {s : sm_S} (hJ : zI s) (X : Int32) : ∀ k : Nat, k ≤ nH s → (0 ≤ wndV s X k ∧ wndV s X k ≤ 9 * (k : Int)) ∧ (0 ≤ mntV s k ∧ mntV s k ≤ 20 * (k : Int)) := by
  obtain ⟨eH, eC, bH, bC⟩ := t_n hJ
  have hle := zI.le hJ
  intro k
  induction k with
  | zero => intro _; exact ⟨⟨Int.le_refl _, by show (0 : Int) ≤ _; omega⟩, ⟨Int.le_refl _, by show (0 : Int) ≤ _; omega⟩⟩
  | succ k ih =>
    intro hk
    obtain ⟨⟨a1, a2⟩, ⟨a3, a4⟩⟩ := ih (by omega)
    have ek : (nI k).toInt = (k : Int) := nI_toInt (by omega)
    have en : (nI k).toNatClampNeg = k := by
      have := a_tn (x := nI k) (by omega)
      omega
    have p78 := zI.pf78 hJ (nI k) (by omega) (by omega)
    have p82 := zI.pf82 hJ (nI k) (by omega) (by omega)
    rw [en] at p78 p82
    have b78 : ((-1 : Int) ≤ (s.1 78 k).toInt) ∧ (s.1 78 k).toInt ≤ 20 := hJ.1 78 k
    have b82 : ((-1 : Int) ≤ (s.1 82 k).toInt) ∧ (s.1 82 k).toInt ≤ 9 := hJ.1 82 k
    have e1 : wndV s X (k + 1) = wndV s X k + (if bt X k = true then (s.1 82 k).toInt else 0) := rfl
    have e2 : mntV s (k + 1) = mntV s k + (s.1 78 k).toInt := rfl
    rw [e1, e2]
    split <;> omega
theorem v_wind {m s : sm_S} (hL : XL m s) (hI : zI m) (hJ : zI s) (X : Int32) : ∀ (n : Nat) (v3 v4 : Int32), 0 ≤ v4.toInt → v4.toInt ≤ (m.1 3 1).toInt → (m.1 3 1).toInt - v4.toInt < (n : Int) → v3.toInt = wndV s X v4.toNatClampNeg → Sf (fun r => r.toInt = wndV s X (nH s)) (fX4_windOf_5 n X v3 v4 m) := by
  have e31 := hL.hedge
  have c31 : 0 ≤ (m.1 3 1).toInt ∧ (m.1 3 1).toInt ≤ 14 := hI.1 3 1
  obtain ⟨eH, eC, bH, bC⟩ := t_n hJ
  intro n
  induction n with
  | zero => intro v3 v4 h0 h1 hn; have hz : ((0 : Nat) : Int) = 0 := rfl; omega
  | succ n ih =>
    intro v3 v4 h0 h1 hn hv
    have hnn : ((n + 1 : Nat) : Int) = (n : Int) + 1 := by omega
    have et := a_tn h0
    unfold fX4_windOf_5
    refine s_le (fun g => s_ret (by rw [hv, show v4.toNatClampNeg = nH s by omega])) (fun g => ?_)
    have e4 : (v4 + (1 : Int32)).toInt = v4.toInt + 1 := a_addl L1 (by omega) (by omega)
    have hs4 : (v4 + (1 : Int32)).toNatClampNeg = v4.toNatClampNeg + 1 := by
      have := a_tn (x := v4 + (1 : Int32)) (by omega)
      omega
    have eW : wndV s X (v4.toNatClampNeg + 1) = wndV s X v4.toNatClampNeg + (if bt X v4.toNatClampNeg = true then (s.1 82 v4.toNatClampNeg).toInt else 0) := rfl
    have h00 := b_has0 (x := X) h0 (show v4.toInt < 32 by omega)
    obtain ⟨-, -, -, -, -, -, q7, -⟩ := hL.row h0 (by omega)
    have bb := (wm_b hJ X v4.toNatClampNeg (by omega)).1
    have b82 : ((-1 : Int) ≤ (s.1 82 v4.toNatClampNeg).toInt) ∧ (s.1 82 v4.toNatClampNeg).toInt ≤ 9 := hJ.1 82 _
    refine s_if (fun q => ?_) (fun q => ?_)
    · have hf := h00.mp q
      refine ih v3 (v4 + (1 : Int32)) (by omega) (by omega) (by omega) ?_
      rw [hs4, eW, hf, if_neg (show ¬ (false = true) by decide), hv]; omega
    · have ht : bt X v4.toNatClampNeg = true := by
        cases hb : bt X v4.toNatClampNeg with
        | true => rfl
        | false => exact absurd (h00.mpr hb) q
      refine s_ix (by omega) ?_
      refine ih _ (v4 + (1 : Int32)) (by omega) (by omega) (by omega) ?_
      rw [hs4, eW, ht, if_pos (show true = true from rfl), q7, a_add (by omega) (by omega), hv]
/-- x is the least wind of a turning below K that leaves each corner as often as it comes to it -/
def MNv (s : sm_S) (K x : Int) : Prop := (∃ t : Int32, 0 ≤ t.toInt ∧ t.toInt < K ∧ BZv s t ∧ wndV s t (nH s) = x) ∧ ∀ t : Int32, 0 ≤ t.toInt → t.toInt < K → BZv s t → x ≤ wndV s t (nH s)
theorem MNv.uni {s : sm_S} {K x y : Int} (h1 : MNv s K x) (h2 : MNv s K y) : x = y := by
  obtain ⟨⟨t, a1, a2, a3, a4⟩, a5⟩ := h1
  obtain ⟨⟨u, b1, b2, b3, b4⟩, b5⟩ := h2
  have p := a5 u b1 b2 b3
  have q := b5 t a1 a2 a3
  omega
theorem MNv.skip {s : sm_S} {x : Int} {t : Int32} (h : MNv s t.toInt x) (hn : BZv s t → x ≤ wndV s t (nH s)) : MNv s (t.toInt + 1) x := by
  obtain ⟨⟨u, a1, a2, a3, a4⟩, a5⟩ := h
  refine ⟨⟨u, a1, by omega, a3, a4⟩, fun w h0 h1 hB => ?_⟩
  by_cases q : w = t
  · subst q; exact hn hB
  · have : w.toInt ≠ t.toInt := fun z => q (eqI.mpr z)
    exact a5 w h0 (by omega) hB
theorem MNv.take {s : sm_S} {t : Int32} (h0 : 0 ≤ t.toInt) (hB : BZv s t) (h : ∀ u : Int32, 0 ≤ u.toInt → u.toInt < t.toInt → BZv s u → wndV s t (nH s) ≤ wndV s u (nH s)) : MNv s (t.toInt + 1) (wndV s t (nH s)) := by
  refine ⟨⟨t, h0, by omega, hB, rfl⟩, fun w h1 h2 hB2 => ?_⟩
  by_cases q : w = t
  · subst q; exact Int.le_refl _
  · have : w.toInt ≠ t.toInt := fun z => q (eqI.mpr z)
    exact h w h1 (by omega) hB2
