/-! RELATIONS between the class's cells and the reference's -/
theorem no_arr {W : List (Nat × Nat)} {a : Nat} (h : W.all (fun p => !(Nat.beq p.1 a)) = true) (j : Nat) : inW W a j = false := by
  cases hi : inW W a j with
  | false => rfl
  | true =>
    obtain ⟨p, hp, e⟩ := List.any_eq_true.mp hi
    have h1 := List.all_eq_true.mp h p hp
    rw [(Bool.and_eq_true_iff.mp e).1] at h1
    cases h1
/-- the texts are as long -/
def RT (m : sm_S) : Prop := (m.1 1 1).toInt = (m.1 72 21).toInt
def noT (W : List (Nat × Nat)) : Bool := and (!inW W 1 1) (!inW W 72 21)
theorem RT.fr {W : List (Nat × Nat)} {m m' : sm_S} (h : RT m) (hF : Fr W m m') (hn : noT W = true) : RT m' := by
  have n := Bool.and_eq_true_iff.mp hn
  unfold RT
  rw [hF 1 1 (by simpa using n.1), hF 72 21 (by simpa using n.2)]
  exact h
/-- the same numbers are kept -/
def RK (m : sm_S) : Prop := ∀ j : Nat, j < 3 → (m.1 57 j).toInt = (m.1 105 j).toInt
def noK (W : List (Nat × Nat)) : Bool := and (W.all (fun p => !(Nat.beq p.1 57))) (W.all (fun p => !(Nat.beq p.1 105)))
theorem RK.fr {W : List (Nat × Nat)} {m m' : sm_S} (h : RK m) (hF : Fr W m m') (hn : noK W = true) : RK m' := by
  have n := Bool.and_eq_true_iff.mp hn
  intro j hj
  rw [hF 57 j (no_arr n.1 j), hF 105 j (no_arr n.2 j)]
  exact h j hj
theorem RT_sign {m : sm_S} {r r' : Int32 × sm_S} (h : RT m) (p1 : (r.1.toInt = -1 ∧ (r.2.1 1 1).toInt = (m.1 1 1).toInt ∧ 76 < (m.1 1 1).toInt) ∨ (r.1.toInt = (m.1 1 1).toInt + 4 ∧ (r.2.1 1 1).toInt = (m.1 1 1).toInt + 4 ∧ (m.1 1 1).toInt ≤ 76)) (f1 : Fr wX11_sign m r.2) (p2 : (r'.1.toInt = -1 ∧ (r'.2.1 72 21).toInt = (r.2.1 72 21).toInt ∧ 76 < (r.2.1 72 21).toInt) ∨ (r'.1.toInt = (r.2.1 72 21).toInt + 4 ∧ (r'.2.1 72 21).toInt = (r.2.1 72 21).toInt + 4 ∧ (r.2.1 72 21).toInt ≤ 76)) (f2 : Fr wX12_sign r.2 r'.2) : RT r'.2 ∧ r.1 = r'.1 := by
  have e1 : r.2.1 72 21 = m.1 72 21 := f1 72 21 rfl
  have e2 : r'.2.1 1 1 = r.2.1 1 1 := f2 1 1 rfl
  unfold RT at h ⊢
  rw [e1] at p2
  rw [e2]
  exact ⟨by omega, Int32.toInt_inj.mp (by omega)⟩
theorem RT_end {x : Int32} {m : sm_S} {r r' : Int32 × sm_S} (h : RT m) (p1 : (r.1.toInt = 0 ∧ (r.2.1 1 1).toInt = (m.1 1 1).toInt ∧ (x.toInt < 0 ∨ (m.1 1 1).toInt < x.toInt)) ∨ (r.1.toInt = 1 ∧ 0 ≤ x.toInt ∧ x.toInt ≤ (m.1 1 1).toInt ∧ (r.2.1 1 1).toInt = x.toInt)) (f1 : Fr wX11_end m r.2) (p2 : (r'.1.toInt = 0 ∧ (r'.2.1 72 21).toInt = (r.2.1 72 21).toInt ∧ (x.toInt < 0 ∨ (r.2.1 72 21).toInt < x.toInt)) ∨ (r'.1.toInt = 1 ∧ 0 ≤ x.toInt ∧ x.toInt ≤ (r.2.1 72 21).toInt ∧ (r'.2.1 72 21).toInt = x.toInt)) (f2 : Fr wX12_end r.2 r'.2) : RT r'.2 ∧ r.1 = r'.1 := by
  have e1 : r.2.1 72 21 = m.1 72 21 := f1 72 21 rfl
  have e2 : r'.2.1 1 1 = r.2.1 1 1 := f2 1 1 rfl
  unfold RT at h ⊢
  rw [e1] at p2
  rw [e2]
  exact ⟨by omega, Int32.toInt_inj.mp (by omega)⟩
theorem RT_zero {W : List (Nat × Nat)} {m m' : sm_S} (h1 : (m.1 1 1).toInt = 0) (hF : Fr W m m') (hw : inW W 1 1 = false) (h2 : (m'.1 72 21).toInt = 0) : RT m' := by
  unfold RT
  rw [hF 1 1 hw, h1, h2]
theorem vland {m : sm_S} {r : Int32 × sm_S} (hI : zI m) (h : fX12_land m = some r) : (r.2.1 72 21).toInt = 0 := by
  obtain ⟨r', e, hr⟩ := zX12_land m hI
  have : r' = r := Option.some.inj (e.symm.trans h)
  subst this
  exact hr.1
theorem vkeep_55s : ∀ (n : Nat) (v2 v3 : Int32) (m : sm_S) (r : Int32 × sm_S), fX12_keep_55 n v2 v3 m = some r → ∀ j, r.2.1 105 j = m.1 105 j := by
  intro n
  induction n with
  | zero => intro v2 v3 m r h; cases h
  | succ n ih =>
    intro v2 v3 m r h j
    unfold fX12_keep_55 at h
    split at h
    · obtain rfl := Option.some.inj h; rfl
    · split at h
      · split at h
        · exact ih _ _ _ _ h j
        · cases h
      · split at h
        · split at h
          · exact ih _ _ _ _ h j
          · cases h
        · cases h
theorem nb1 : vp_nar .boolean (1 : Int32) = 1 := by decide
theorem sX11_keep {x1 : Int32} {m : sm_S} {r : Int32 × sm_S} (hI : zI m) (h : fX11_keep x1 m = some r) : ∀ j : Nat, r.2.1 57 j = if (j : Int) = x1.toInt ∧ x1.toInt ≤ 2 then (1 : Int32) else m.1 57 j := by
  have l0 := L0
  have l1 := L1
  have l2 := L2
  have l3 := L3
  intro j
  unfold fX11_keep at h
  by_cases h1 : x1 < 0
  · rw [if_pos h1] at h
    obtain rfl := Option.some.inj h
    have := Int32.lt_iff_toInt_lt.mp h1
    rw [if_neg (by omega)]
  · rw [if_neg h1] at h
    have g1 := Int.not_lt.mp (fun q => h1 (Int32.lt_iff_toInt_lt.mpr q))
    by_cases h2 : x1 < (3 : Int32)
    · have g2 := Int32.lt_iff_toInt_lt.mp h2
      rw [if_pos h2] at h
      have key : ∀ (W : List (Nat × Nat)) (o : Option sm_S) (k : Nat), Sf (fun s => True ∧ zI s ∧ Fr W m s) o → W.all (fun p => !(Nat.beq p.1 57)) = true → (k : Int) = x1.toInt → (o.bind fun m2 => some ((1 : Int32), (sm_w1 m2 57 k (vp_nar .boolean (1 : Int32))))) = some r → r.2.1 57 j = if (j : Int) = x1.toInt ∧ x1.toInt ≤ 2 then (1 : Int32) else m.1 57 j := by
        rintro W o k ⟨s, rfl, -, -, hF⟩ hW hk q
        obtain rfl := Option.some.inj q
        show (sm_w1 s 57 k (vp_nar .boolean (1 : Int32))).1 57 j = _
        by_cases e : j = k
        · rw [e, r_hit, if_pos (by omega)]; exact nb1
        · rw [r_place e, if_neg (by omega), hF 57 j (no_arr hW j)]
      by_cases h3 : x1 = (0 : Int32)
      · rw [if_pos h3] at h; exact key _ _ 0 (zX6_copyFrom_i1 m hI) rfl (by rw [h3, l0]; rfl) h
      · rw [if_neg h3] at h
        by_cases h4 : x1 = (1 : Int32)
        · rw [if_pos h4] at h; exact key _ _ 1 (zX6_copyFrom_i2 m hI) rfl (by rw [h4, l1]; rfl) h
        · rw [if_neg h4] at h
          by_cases h5 : x1 = (2 : Int32)
          · rw [if_pos h5] at h; exact key _ _ 2 (zX6_copyFrom_i3 m hI) rfl (by rw [h5, l2]; rfl) h
          · rw [if_neg h5] at h; cases h
    · rw [if_neg h2] at h
      obtain rfl := Option.some.inj h
      have g2 := Int.not_lt.mp (fun q => h2 (Int32.lt_iff_toInt_lt.mpr q))
      rw [if_neg (by omega)]
theorem sX12_keep {x1 : Int32} {m : sm_S} {r : Int32 × sm_S} (hI : zI m) (h : fX12_keep x1 m = some r) : ∀ j : Nat, r.2.1 105 j = if (j : Int) = x1.toInt ∧ x1.toInt ≤ 2 then (1 : Int32) else m.1 105 j := by
  have l0 := L0
  have ll0 := LL0
  have ll2 := LL2
  intro j
  have e1 : (x1).toInt64.toInt = x1.toInt := Int32.toInt_toInt64 _
  have i1 : zI (sm_w1 m 72 0 (0 : Int32)) := zI.w hI rfl (show 0 ≤ (0 : Int32).toInt ∧ (0 : Int32).toInt ≤ 1 by omega)
  obtain ⟨r2, er, hr⟩ := zX12_in (x1).toInt64 (0 : Int64) (2 : Int64) (sm_w1 m 72 0 (0 : Int32)) (by omega) i1
  unfold fX12_keep at h
  rw [er, Option.bind_some] at h
  by_cases h1 : r2 = 0
  · rw [if_pos h1] at h
    obtain rfl := Option.some.inj h
    have h1' : r2.toInt = 0 := by rw [h1]; exact L0
    rw [if_neg (by omega)]; rfl
  · rw [if_neg h1] at h
    have h1' : r2.toInt ≠ 0 := fun q => h1 (Int32.toInt_inj.mp (by rw [q]; exact L0.symm))
    have tx := a_tn (x := x1) (by omega)
    split at h
    · split at h
      · split at h
        · rw [vkeep_55s _ _ _ _ _ h j]
          show (sm_w1 (sm_w1 m 72 0 (0 : Int32)) 105 x1.toNatClampNeg (vp_nar .boolean (1 : Int32))).1 105 j = _
          by_cases e : j = x1.toNatClampNeg
          · rw [e, r_hit, if_pos (by omega)]; exact nb1
          · rw [r_place e, if_neg (by omega)]; rfl
        · cases h
      · cases h
    · cases h
theorem RK_keep {x1 : Int32} {m : sm_S} {r r' : Int32 × sm_S} (h : RK m) (hI : zI m) (hI2 : zI r.2) (e1 : fX11_keep x1 m = some r) (f1 : Fr wX11_keep m r.2) (e2 : fX12_keep x1 r.2 = some r') (f2 : Fr wX12_keep r.2 r'.2) : RK r'.2 := by
  intro j hj
  rw [f2 57 j (no_arr rfl j), sX11_keep hI e1 j, sX12_keep hI2 e2 j, f1 105 j (no_arr rfl j)]
  by_cases q : (j : Int) = x1.toInt ∧ x1.toInt ≤ 2
  · rw [if_pos q, if_pos q]
  · rw [if_neg q, if_neg q]; exact h j hj
theorem vagain_57 : ∀ (n : Nat) (v2 v3 : Int32) (m : sm_S) (r : Int32 × sm_S), fX12_again_57 n v2 v3 m = some r → r.1 = 1 := by
  intro n
  induction n with
  | zero => intro v2 v3 m r h; cases h
  | succ n ih =>
    intro v2 v3 m r h
    unfold fX12_again_57 at h
    split at h
    · obtain rfl := Option.some.inj h; rfl
    · split at h
      · split at h
        · exact ih _ _ _ _ h
        · cases h
      · cases h
theorem vX12_again {x1 : Int32} {m : sm_S} {r : Int32 × sm_S} (hI : zI m) (h : fX12_again x1 m = some r) : (r.1.toInt = 0 ∧ (x1.toInt < 0 ∨ 2 < x1.toInt ∨ (m.1 105 x1.toNatClampNeg).toInt = 0)) ∨ (r.1.toInt = 1 ∧ 0 ≤ x1.toInt ∧ x1.toInt ≤ 2 ∧ (m.1 105 x1.toNatClampNeg).toInt ≠ 0) := by
  have l0 := L0
  have l1 := L1
  have ll0 := LL0
  have ll2 := LL2
  have e1 : (x1).toInt64.toInt = x1.toInt := Int32.toInt_toInt64 _
  have i1 : zI (sm_w1 m 72 0 (0 : Int32)) := zI.w hI rfl (show 0 ≤ (0 : Int32).toInt ∧ (0 : Int32).toInt ≤ 1 by omega)
  obtain ⟨r2, er, hr⟩ := zX12_in (x1).toInt64 (0 : Int64) (2 : Int64) (sm_w1 m 72 0 (0 : Int32)) (by omega) i1
  unfold fX12_again at h
  rw [er, Option.bind_some] at h
  by_cases h1 : r2 = 0
  · rw [if_pos h1] at h
    obtain rfl := Option.some.inj h
    have h1' : r2.toInt = 0 := by rw [h1]; exact L0
    exact Or.inl ⟨l0, by omega⟩
  · rw [if_neg h1] at h
    have h1' : r2.toInt ≠ 0 := fun q => h1 (Int32.toInt_inj.mp (by rw [q]; exact L0.symm))
    split at h
    · by_cases h3 : (m.1 105 (x1).toNatClampNeg) = 0
      · rw [if_pos h3] at h
        obtain rfl := Option.some.inj h
        exact Or.inl ⟨l0, Or.inr (Or.inr (by rw [h3]; exact l0))⟩
      · rw [if_neg h3] at h
        refine Or.inr ⟨?_, by omega, by omega, fun q => h3 (Int32.toInt_inj.mp (by rw [q]; exact L0.symm))⟩
        split at h
        · split at h
          · rw [vagain_57 _ _ _ _ _ h]; exact l1
          · cases h
        · cases h
    · cases h
theorem again_eq {x1 : Int32} {m : sm_S} {r r' : Int32 × sm_S} (h : RK m) (hI2 : zI r.2) (p1 : (r.1.toInt = 0 ∧ (x1.toInt < 0 ∨ 2 < x1.toInt ∨ (m.1 57 x1.toNatClampNeg).toInt = 0)) ∨ (r.1.toInt = 1 ∧ 0 ≤ x1.toInt ∧ x1.toInt ≤ 2 ∧ (m.1 57 x1.toNatClampNeg).toInt ≠ 0)) (f1 : Fr wX11_again m r.2) (e2 : fX12_again x1 r.2 = some r') : r.1 = r'.1 := by
  have p2 := vX12_again hI2 e2
  rw [f1 105 _ (no_arr rfl _)] at p2
  refine Int32.toInt_inj.mp ?_
  by_cases q : 0 ≤ x1.toInt ∧ x1.toInt ≤ 2
  · have tx := a_tn q.1
    have := h x1.toNatClampNeg (by omega)
    omega
  · omega
