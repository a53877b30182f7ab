/-! THE CLASS'S PATHS -/
def pcl (m : sm_S) (a b : Nat) : Int := (m.1 (39 + a) b).toInt
theorem pcl_w {m : sm_S} {a b : Nat} {v : Int32} : pcl (sm_w1 m (39 + a) b v) a b = v.toInt ∧ ∀ x y, ¬ (x = a ∧ y = b) → pcl (sm_w1 m (39 + a) b v) x y = pcl m x y := by
  refine ⟨congrArg Int32.toInt r_hit, fun x y hn => congrArg Int32.toInt ?_⟩
  by_cases q : x = a
  · subst q
    exact r_place (fun z => hn ⟨rfl, z⟩)
  · exact r_cell (by omega)
/-- one write of a row -/
theorem pth_w {m0 m s : sm_S} {i v : Int32} {k : Nat} (hL : XL m s) (hI : zI m) (hF : Fr wX1_layPaths m0 m) (hi : 0 ≤ i.toInt ∧ i.toInt < 10) : XL (sm_w1 m (39 + i.toNatClampNeg) k v) s ∧ zI (sm_w1 m (39 + i.toNatClampNeg) k v) ∧ Fr wX1_layPaths m0 (sm_w1 m (39 + i.toNatClampNeg) k v) := by
  have f : Fr wX1_layPaths m (sm_w1 m (39 + i.toNatClampNeg) k v) := Fr.row Fr.refl hi rfl
  exact ⟨hL.fr f (Fr.refl (W := [])) rfl, zI.row hI hi, Fr.row hF hi rfl⟩
theorem e_mA {m s : sm_S} (hL : XL m s) (hJ : zI s) (hC : zC s) {h : Int32} (h0 : 0 ≤ h.toInt) (h1 : h.toInt < (m.1 3 1).toInt) : (∃ w, fX2_minutesFrom h (s.1 76 h.toNatClampNeg) m = some w ∧ w.toInt = gW1 s h.toNatClampNeg) ∧ (∃ w, fX2_minutesFrom h (s.1 77 h.toNatClampNeg) m = some w ∧ w.toInt = gW2 s h.toNatClampNeg) ∧ fX2_otherEnd h (s.1 76 h.toNatClampNeg) m = some (s.1 77 h.toNatClampNeg) ∧ fX2_otherEnd h (s.1 77 h.toNatClampNeg) m = some (s.1 76 h.toNatClampNeg) := by
  have e31 := hL.hedge
  obtain ⟨eH, eC, bH, bC⟩ := t_n hJ
  have et := a_tn h0
  obtain ⟨a1, b1, a2, b2, ab⟩ := t_ends hJ hC (h := h.toNatClampNeg) (by omega)
  obtain ⟨q1, q2, q3, -, -, -, q7, -⟩ := hL.row h0 h1
  have hh : 0 ≤ h.toInt ∧ h.toInt < ((14 : Nat) : Int) := by omega
  have hne : ¬ s.1 76 h.toNatClampNeg = s.1 77 h.toNatClampNeg := fun z => ab (by
    have := congrArg Int32.toInt z
    omega)
  have b78 : (-1 : Int) ≤ (s.1 78 h.toNatClampNeg).toInt ∧ (s.1 78 h.toNatClampNeg).toInt ≤ 20 := hJ.1 78 _
  have b82 : (-1 : Int) ≤ (s.1 82 h.toNatClampNeg).toInt ∧ (s.1 82 h.toNatClampNeg).toInt ≤ 9 := hJ.1 82 _
  refine ⟨⟨_, e_mins11 hh, ?_⟩, ⟨_, e_mins11 hh, ?_⟩, ?_, ?_⟩
  · unfold mnF
    rw [q1, if_pos rfl, q3]
    rfl
  · unfold mnF
    rw [q1, if_neg hne, q3, q7, a_add (by omega) (by omega)]
    rfl
  · rw [e_other11 hh]
    unfold otE
    rw [q1, if_pos rfl, q2]
  · rw [e_other11 hh]
    unfold otE
    rw [q1, if_neg hne]
def PTHq (m0 s r : sm_S) : Prop := XL r s ∧ zI r ∧ Fr wX1_layPaths m0 r ∧ INd (pcl r) (gD s) 65535 (nC s)
theorem cp_23 {m0 s : sm_S} (hJ : zI s) (hC : zC s) {Q : sm_S → Prop} (k12 : Int32 → Int32 → sm_S → Option sm_S) (k2 : Int32 → sm_S → Option sm_S) (v2 v3 : Int32) (h2 : 0 ≤ v2.toInt ∧ v2.toInt < (s.1 72 3).toInt) (h3 : 0 ≤ v3.toInt ∧ v3.toInt < (s.1 72 3).toInt) (hk : ∀ m, XL m s → zI m → Fr wX1_layPaths m0 m → INf (pcl m) (gDI s (nH s)) 65535 (nC s) v2.toNatClampNeg (v3.toNatClampNeg + 1) 0 → Sf Q (k12 v2 (v3 + (1 : Int32)) m)) : ∀ (n : Nat) (v4 : Int32) (m : sm_S), 0 ≤ v4.toInt → v4.toInt ≤ (s.1 72 3).toInt → (s.1 72 3).toInt - v4.toInt < (n : Int) → XL m s → zI m → Fr wX1_layPaths m0 m → INf (pcl m) (gDI s (nH s)) 65535 (nC s) v2.toNatClampNeg v3.toNatClampNeg v4.toNatClampNeg → Sf Q (fX1_shortenPaths_23 k12 k2 n v2 v3 v4 m) := by
  obtain ⟨eH, eC, bH, bC⟩ := t_n hJ
  have hd : ∀ x y, (0 ≤ gDI s (nH s) x y ∧ gDI s (nH s) x y ≤ 1000000) ∧ (x ≠ y → 1 ≤ gDI s (nH s) x y) ∧ (x = y → gDI s (nH s) x y = 0) := fun x y => dI_b (gHY hJ hC) _ x y (Nat.le_refl _)
  have t2 := a_tn h2.1
  have t3 := a_tn h3.1
  intro n
  induction n with
  | zero => intro v4 m h0 hl hn; have hz : ((0 : Nat) : Int) = 0 := rfl; omega
  | succ n ih =>
    intro v4 m h0 hl hn hL hI hF hV
    have hnn : ((n + 1 : Nat) : Int) = (n : Int) + 1 := by omega
    have t4 := a_tn h0
    have e3 : m.1 3 0 = s.1 72 3 := hL.1.1
    unfold fX1_shortenPaths_23
    rw [e3]
    refine s_le (fun g => hk m hL hI hF (hV.row (by omega))) (fun g => ?_)
    have rng : ∀ x y : Nat, x < nC s → y < nC s → 0 ≤ pcl m x y ∧ pcl m x y ≤ 65535 := fun x y hx hy => by
      have b1 := (fL_b hd (v2.toNatClampNeg + 1) x y).1
      have b2 := (fL_b hd v2.toNatClampNeg x y).1
      rw [hV x y hx hy]
      split <;> omega
    have ra := rng v3.toNatClampNeg v2.toNatClampNeg (by omega) (by omega)
    have rb := rng v2.toNatClampNeg v4.toNatClampNeg (by omega) (by omega)
    refine s_ix (by omega) (s_ix (by omega) (s_ix (by omega) (s_ix (by omega) (s_ix (by omega) (s_ix (by omega) (s_ix (by omega) (s_ix (by omega) ?_)))))))
    have es : ((m.1 (39 + v3.toNatClampNeg) v2.toNatClampNeg) + (m.1 (39 + v2.toNatClampNeg) v4.toNatClampNeg)).toInt = pcl m v3.toNatClampNeg v2.toNatClampNeg + pcl m v2.toNatClampNeg v4.toNatClampNeg := by
      unfold pcl at ra rb ⊢
      exact a_add (by omega) (by omega)
    have q := a_ilt (x := (m.1 (39 + v3.toNatClampNeg) v2.toNatClampNeg) + (m.1 (39 + v2.toNatClampNeg) v4.toNatClampNeg)) (y := m.1 (39 + v3.toNatClampNeg) v4.toNatClampNeg) (a := (m.1 (39 + v3.toNatClampNeg) v2.toNatClampNeg) + (m.1 (39 + v2.toNatClampNeg) v4.toNatClampNeg)) (b := m.1 (39 + v3.toNatClampNeg) v4.toNatClampNeg)
    have ef : pcl m v3.toNatClampNeg v4.toNatClampNeg = (m.1 (39 + v3.toNatClampNeg) v4.toNatClampNeg).toInt := rfl
    have ev : (v4 + (1 : Int32)).toInt = v4.toInt + 1 := a_addl L1 (by omega) (by omega)
    have hs4 : (v4 + (1 : Int32)).toNatClampNeg = v4.toNatClampNeg + 1 := by
      have := a_tn (x := v4 + (1 : Int32)) (by omega)
      omega
    generalize (if ((m.1 (39 + v3.toNatClampNeg) v2.toNatClampNeg) + (m.1 (39 + v2.toNatClampNeg) v4.toNatClampNeg)) < (m.1 (39 + v3.toNatClampNeg) v4.toNatClampNeg) then ((m.1 (39 + v3.toNatClampNeg) v2.toNatClampNeg) + (m.1 (39 + v2.toNatClampNeg) v4.toNatClampNeg)) else (m.1 (39 + v3.toNatClampNeg) v4.toNatClampNeg)) = w at q ⊢
    obtain ⟨L', I', F'⟩ := pth_w (k := v4.toNatClampNeg) (v := w) hL hI hF (i := v3) (by omega)
    obtain ⟨w1, w2⟩ := pcl_w (m := m) (a := v3.toNatClampNeg) (b := v4.toNatClampNeg) (v := w)
    refine ih (v4 + (1 : Int32)) _ (by omega) (by omega) (by omega) L' I' F' ?_
    rw [hs4]
    exact INf.step hd (by decide) (by omega) (by omega) (by omega) hV (by rw [w1]; omega) (fun x y _ hn => w2 x y hn)
theorem cp_12 {m0 s : sm_S} (hJ : zI s) (hC : zC s) {Q : sm_S → Prop} (k2 : Int32 → sm_S → Option sm_S) (v2 : Int32) (h2 : 0 ≤ v2.toInt ∧ v2.toInt < (s.1 72 3).toInt) (hk : ∀ m, XL m s → zI m → Fr wX1_layPaths m0 m → INd (pcl m) (fL (gDI s (nH s)) (v2.toNatClampNeg + 1)) 65535 (nC s) → Sf Q (k2 (v2 + (1 : Int32)) m)) : ∀ (n : Nat) (v3 : Int32) (m : sm_S), 0 ≤ v3.toInt → v3.toInt ≤ (s.1 72 3).toInt → (s.1 72 3).toInt - v3.toInt < (n : Int) → XL m s → zI m → Fr wX1_layPaths m0 m → INf (pcl m) (gDI s (nH s)) 65535 (nC s) v2.toNatClampNeg v3.toNatClampNeg 0 → Sf Q (fX1_shortenPaths_12 k2 n v2 v3 m) := by
  have l0 := L0
  have hfu := fuE
  have z0 : (0 : Int32).toNatClampNeg = 0 := by decide
  obtain ⟨eH, eC, bH, bC⟩ := t_n hJ
  intro n
  induction n with
  | zero => intro v3 m h0 hl hn; have hz : ((0 : Nat) : Int) = 0 := rfl; omega
  | succ n ih =>
    intro v3 m h0 hl hn hL hI hF hV
    have hnn : ((n + 1 : Nat) : Int) = (n : Int) + 1 := by omega
    have t3 := a_tn h0
    have e3 : m.1 3 0 = s.1 72 3 := hL.1.1
    unfold fX1_shortenPaths_12
    rw [e3]
    refine s_le (fun g => hk m hL hI hF (hV.all (by omega))) (fun g => ?_)
    have ev : (v3 + (1 : Int32)).toInt = v3.toInt + 1 := a_addl L1 (by omega) (by omega)
    have hs3 : (v3 + (1 : Int32)).toNatClampNeg = v3.toNatClampNeg + 1 := by
      have := a_tn (x := v3 + (1 : Int32)) (by omega)
      omega
    exact cp_23 hJ hC _ k2 v2 v3 h2 (by omega) (fun m' hL' hI' hF' hV' => ih (v3 + (1 : Int32)) m' (by omega) (by omega) (by omega) hL' hI' hF' (by rw [hs3]; exact hV')) sm_fu (0 : Int32) m (by omega) (by omega) (by omega) hL hI hF (by rw [z0]; exact hV)
theorem cp_2 {m0 s : sm_S} (hJ : zI s) (hC : zC s) : ∀ (n : Nat) (v2 : Int32) (m : sm_S), 0 ≤ v2.toInt → v2.toInt ≤ (s.1 72 3).toInt → (s.1 72 3).toInt - v2.toInt < (n : Int) → XL m s → zI m → Fr wX1_layPaths m0 m → INd (pcl m) (fL (gDI s (nH s)) v2.toNatClampNeg) 65535 (nC s) → Sf (PTHq m0 s) (fX1_shortenPaths_2 n v2 m) := by
  have l0 := L0
  have hfu := fuE
  have z0 : (0 : Int32).toNatClampNeg = 0 := by decide
  obtain ⟨eH, eC, bH, bC⟩ := t_n hJ
  intro n
  induction n with
  | zero => intro v2 m h0 hl hn; have hz : ((0 : Nat) : Int) = 0 := rfl; omega
  | succ n ih =>
    intro v2 m h0 hl hn hL hI hF hV
    have hnn : ((n + 1 : Nat) : Int) = (n : Int) + 1 := by omega
    have t2 := a_tn h0
    have e3 : m.1 3 0 = s.1 72 3 := hL.1.1
    unfold fX1_shortenPaths_2
    rw [e3]
    refine s_le (fun g => s_ret ⟨hL, hI, hF, ?_⟩) (fun g => ?_)
    · rw [show v2.toNatClampNeg = nC s by omega] at hV
      exact hV
    · have ev : (v2 + (1 : Int32)).toInt = v2.toInt + 1 := a_addl L1 (by omega) (by omega)
      have hs2 : (v2 + (1 : Int32)).toNatClampNeg = v2.toNatClampNeg + 1 := by
        have := a_tn (x := v2 + (1 : Int32)) (by omega)
        omega
      exact cp_12 hJ hC _ v2 (by omega) (fun m' hL' hI' hF' hV' => ih (v2 + (1 : Int32)) m' (by omega) (by omega) (by omega) hL' hI' hF' (by rw [hs2]; exact hV')) sm_fu (0 : Int32) m (by omega) (by omega) (by omega) hL hI hF (by rw [z0]; exact INf.of hV)
def LPq (m0 s r : sm_S) : Prop := XL r s ∧ zI r ∧ Fr wX1_layPaths m0 r ∧ INd (pcl r) (gDI s (nH s)) 65535 (nC s)
theorem lp_53 {m0 s : sm_S} (hJ : zI s) (hC : zC s) : ∀ (n : Nat) (v2 : Int32) (m : sm_S), 0 ≤ v2.toInt → v2.toInt ≤ (s.1 72 6).toInt → (s.1 72 6).toInt - v2.toInt < (n : Int) → XL m s → zI m → Fr wX1_layPaths m0 m → INd (pcl m) (gDI s v2.toNatClampNeg) 65535 (nC s) → Sf (LPq m0 s) (fX1_layPaths_53 n v2 m) := by
  have l0 := L0
  have l1 := L1
  obtain ⟨eH, eC, bH, bC⟩ := t_n hJ
  intro n
  induction n with
  | zero => intro v2 m h0 hl hn; have hz : ((0 : Nat) : Int) = 0 := rfl; omega
  | succ n ih =>
    intro v2 m h0 hl hn hL hI hF hV
    have hnn : ((n + 1 : Nat) : Int) = (n : Int) + 1 := by omega
    have t2 := a_tn h0
    have e31 : m.1 3 1 = s.1 72 6 := hL.1.2.1
    unfold fX1_layPaths_53
    rw [e31]
    refine s_le (fun g => s_ret ⟨hL, hI, hF, ?_⟩) (fun g => ?_)
    · rw [show v2.toNatClampNeg = nH s by omega] at hV
      exact hV
    · have ev : (v2 + (1 : Int32)).toInt = v2.toInt + 1 := a_addl L1 (by omega) (by omega)
      have hs2 : (v2 + (1 : Int32)).toNatClampNeg = v2.toNatClampNeg + 1 := by
        have := a_tn (x := v2 + (1 : Int32)) (by omega)
        omega
      have hv : v2.toNatClampNeg < nH s := by omega
      obtain ⟨a1, b1, a2, b2, ab⟩ := t_ends hJ hC hv
      have h31 : v2.toInt < (m.1 3 1).toInt := by rw [e31]; exact g
      obtain ⟨q1, q2, -, -, -, -, -, q8⟩ := hL.row h0 h31
      have x14 : 0 ≤ v2.toInt ∧ v2.toInt < ((14 : Nat) : Int) := by omega
      refine s_ix x14 ?_
      rw [q8]
      refine s_if (fun g2 => ?_) (fun g2 => ?_)
      · have hS : gS s v2.toNatClampNeg = true := by
          show (!bt (s.1 72 14) v2.toNatClampNeg) = true
          cases hb : bt (s.1 72 14) v2.toNatClampNeg with
          | false => rfl
          | true => rw [hb, if_pos rfl] at g2; exact absurd g2 (by decide)
        obtain ⟨c1, c2, c3, c4, c5⟩ := gHY hJ hC v2.toNatClampNeg hv hS
        have xa : 0 ≤ (s.1 76 v2.toNatClampNeg).toInt ∧ (s.1 76 v2.toNatClampNeg).toInt < ((10 : Nat) : Int) := by omega
        have xb : 0 ≤ (s.1 77 v2.toNatClampNeg).toInt ∧ (s.1 77 v2.toNatClampNeg).toInt < ((10 : Nat) : Int) := by omega
        have ea : (s.1 76 v2.toNatClampNeg).toNatClampNeg = ta s v2.toNatClampNeg := rfl
        have eb : (s.1 77 v2.toNatClampNeg).toNatClampNeg = tb s v2.toNatClampNeg := rfl
        obtain ⟨⟨wa, ewa, wa1⟩, -⟩ := e_mA hL hJ hC h0 h31
        refine s_ix x14 (s_ix x14 ?_)
        rw [q1, q2]
        refine s_ix xa (s_ix xa (s_ix xb ?_))
        rw [ewa, Option.bind_some]
        refine s_ix xb (s_ix xb (s_ix xb (s_ix xa ?_)))
        have q := a_ilt (x := wa) (y := m.1 (39 + (s.1 76 v2.toNatClampNeg).toNatClampNeg) (s.1 77 v2.toNatClampNeg).toNatClampNeg) (a := wa) (b := m.1 (39 + (s.1 76 v2.toNatClampNeg).toNatClampNeg) (s.1 77 v2.toNatClampNeg).toNatClampNeg)
        have ef : pcl m (ta s v2.toNatClampNeg) (tb s v2.toNatClampNeg) = (m.1 (39 + (s.1 76 v2.toNatClampNeg).toNatClampNeg) (s.1 77 v2.toNatClampNeg).toNatClampNeg).toInt := rfl
        generalize (if wa < (m.1 (39 + (s.1 76 v2.toNatClampNeg).toNatClampNeg) (s.1 77 v2.toNatClampNeg).toNatClampNeg) then wa else (m.1 (39 + (s.1 76 v2.toNatClampNeg).toNatClampNeg) (s.1 77 v2.toNatClampNeg).toNatClampNeg)) = w at q ⊢
        obtain ⟨L', I', F'⟩ := pth_w (k := (s.1 77 v2.toNatClampNeg).toNatClampNeg) (v := w) hL hI hF (i := s.1 76 v2.toNatClampNeg) (by omega)
        obtain ⟨w1, w2⟩ := pcl_w (m := m) (a := (s.1 76 v2.toNatClampNeg).toNatClampNeg) (b := (s.1 77 v2.toNatClampNeg).toNatClampNeg) (v := w)
        have h31' : v2.toInt < ((sm_w1 m (39 + (s.1 76 v2.toNatClampNeg).toNatClampNeg) (s.1 77 v2.toNatClampNeg).toNatClampNeg w).1 3 1).toInt := by
          rw [L'.1.2.1]; exact g
        generalize sm_w1 m (39 + (s.1 76 v2.toNatClampNeg).toNatClampNeg) (s.1 77 v2.toNatClampNeg).toNatClampNeg w = m1 at L' I' F' w1 w2 h31' ⊢
        obtain ⟨-, ⟨wb, ewb, wb1⟩, -⟩ := e_mA L' hJ hC h0 h31'
        rw [ewb, Option.bind_some]
        have p := a_ilt (x := wb) (y := m1.1 (39 + (s.1 77 v2.toNatClampNeg).toNatClampNeg) (s.1 76 v2.toNatClampNeg).toNatClampNeg) (a := wb) (b := m1.1 (39 + (s.1 77 v2.toNatClampNeg).toNatClampNeg) (s.1 76 v2.toNatClampNeg).toNatClampNeg)
        have ef2 : pcl m1 (tb s v2.toNatClampNeg) (ta s v2.toNatClampNeg) = (m1.1 (39 + (s.1 77 v2.toNatClampNeg).toNatClampNeg) (s.1 76 v2.toNatClampNeg).toNatClampNeg).toInt := rfl
        refine s_ix xa ?_
        generalize (if wb < (m1.1 (39 + (s.1 77 v2.toNatClampNeg).toNatClampNeg) (s.1 76 v2.toNatClampNeg).toNatClampNeg) then wb else (m1.1 (39 + (s.1 77 v2.toNatClampNeg).toNatClampNeg) (s.1 76 v2.toNatClampNeg).toNatClampNeg)) = u at p ⊢
        obtain ⟨L2, I2, F2⟩ := pth_w (k := (s.1 76 v2.toNatClampNeg).toNatClampNeg) (v := u) L' I' F' (i := s.1 77 v2.toNatClampNeg) (by omega)
        obtain ⟨u1, u2⟩ := pcl_w (m := m1) (a := (s.1 77 v2.toNatClampNeg).toNatClampNeg) (b := (s.1 76 v2.toNatClampNeg).toNatClampNeg) (v := u)
        refine ih (v2 + (1 : Int32)) _ (by omega) (by omega) (by omega) L2 I2 F2 ?_
        rw [hs2]
        have w1' : pcl m1 (ta s v2.toNatClampNeg) (tb s v2.toNatClampNeg) = w.toInt := w1
        have u1' : pcl (sm_w1 m1 (39 + (s.1 77 v2.toNatClampNeg).toNatClampNeg) (s.1 76 v2.toNatClampNeg).toNatClampNeg u) (tb s v2.toNatClampNeg) (ta s v2.toNatClampNeg) = u.toInt := u1
        exact INd.step (c1 := pcl m1) hV hS ab a2 b2 (by rw [w1']; omega) (fun x y _ hn => w2 x y hn) (by rw [u1']; omega) (fun x y _ hn => u2 x y hn)
      · have hS : gS s v2.toNatClampNeg = false := by
          show (!bt (s.1 72 14) v2.toNatClampNeg) = false
          cases hb : bt (s.1 72 14) v2.toNatClampNeg with
          | true => rfl
          | false => rw [hb, if_neg (by decide)] at g2; exact absurd rfl g2
        refine ih (v2 + (1 : Int32)) m (by omega) (by omega) (by omega) hL hI hF ?_
        rw [hs2]
        exact INd.gate hV hS
theorem lp_12 {m0 s : sm_S} (hJ : zI s) {Q : sm_S → Prop} (k2 : Int32 → sm_S → Option sm_S) (v2 : Int32) (h2 : 0 ≤ v2.toInt ∧ v2.toInt < (s.1 72 3).toInt) (hk : ∀ m, XL m s → zI m → Fr wX1_layPaths m0 m → IN0 (pcl m) 65535 (nC s) (v2.toNatClampNeg + 1) 0 → Sf Q (k2 (v2 + (1 : Int32)) m)) : ∀ (n : Nat) (v3 : Int32) (m : sm_S), 0 ≤ v3.toInt → v3.toInt ≤ (s.1 72 3).toInt → (s.1 72 3).toInt - v3.toInt < (n : Int) → XL m s → zI m → Fr wX1_layPaths m0 m → IN0 (pcl m) 65535 (nC s) v2.toNatClampNeg v3.toNatClampNeg → Sf Q (fX1_layPaths_12 k2 n v2 v3 m) := by
  have l0 := L0
  have lM := L65535
  obtain ⟨eH, eC, bH, bC⟩ := t_n hJ
  have t2 := a_tn h2.1
  intro n
  induction n with
  | zero => intro v3 m h0 hl hn; have hz : ((0 : Nat) : Int) = 0 := rfl; omega
  | succ n ih =>
    intro v3 m h0 hl hn hL hI hF hV
    have hnn : ((n + 1 : Nat) : Int) = (n : Int) + 1 := by omega
    have t3 := a_tn h0
    have e3 : m.1 3 0 = s.1 72 3 := hL.1.1
    unfold fX1_layPaths_12
    rw [e3]
    refine s_le (fun g => hk m hL hI hF (hV.row (by omega))) (fun g => ?_)
    have ev : (v3 + (1 : Int32)).toInt = v3.toInt + 1 := a_addl L1 (by omega) (by omega)
    have hs3 : (v3 + (1 : Int32)).toNatClampNeg = v3.toNatClampNeg + 1 := by
      have := a_tn (x := v3 + (1 : Int32)) (by omega)
      omega
    have put : ∀ w : Int32, w.toInt = min 65535 (if v2.toNatClampNeg = v3.toNatClampNeg then 0 else 1000000) → Sf Q (fX1_layPaths_12 k2 n v2 (v3 + (1 : Int32)) (sm_w1 m (39 + v2.toNatClampNeg) v3.toNatClampNeg w)) := fun w he => by
      obtain ⟨L', I', F'⟩ := pth_w (k := v3.toNatClampNeg) (v := w) hL hI hF (i := v2) (by omega)
      obtain ⟨w1, w2⟩ := pcl_w (m := m) (a := v2.toNatClampNeg) (b := v3.toNatClampNeg) (v := w)
      refine ih (v3 + (1 : Int32)) _ (by omega) (by omega) (by omega) L' I' F' ?_
      rw [hs3]
      exact hV.step (by rw [w1, he]) (fun x y _ hn => w2 x y hn)
    refine s_ix (by omega) (s_eq (fun g2 => s_ix (by omega) (put (0 : Int32) ?_)) (fun g2 => s_ix (by omega) (put (65535 : Int32) ?_)))
    · rw [if_pos (show v2.toNatClampNeg = v3.toNatClampNeg by omega), l0]; decide
    · rw [if_neg (show ¬ v2.toNatClampNeg = v3.toNatClampNeg by omega), lM]; decide
theorem lp_2 {m0 s : sm_S} (hJ : zI s) (hC : zC s) : ∀ (n : Nat) (v2 : Int32) (m : sm_S), 0 ≤ v2.toInt → v2.toInt ≤ (s.1 72 3).toInt → (s.1 72 3).toInt - v2.toInt < (n : Int) → XL m s → zI m → Fr wX1_layPaths m0 m → IN0 (pcl m) 65535 (nC s) v2.toNatClampNeg 0 → Sf (LPq m0 s) (fX1_layPaths_2 n v2 m) := by
  have l0 := L0
  have hfu := fuE
  have z0 : (0 : Int32).toNatClampNeg = 0 := by decide
  obtain ⟨eH, eC, bH, bC⟩ := t_n hJ
  intro n
  induction n with
  | zero => intro v2 m h0 hl hn; have hz : ((0 : Nat) : Int) = 0 := rfl; omega
  | succ n ih =>
    intro v2 m h0 hl hn hL hI hF hV
    have hnn : ((n + 1 : Nat) : Int) = (n : Int) + 1 := by omega
    have t2 := a_tn h0
    have e3 : m.1 3 0 = s.1 72 3 := hL.1.1
    unfold fX1_layPaths_2
    rw [e3]
    refine s_le (fun g => ?_) (fun g => ?_)
    · refine lp_53 hJ hC sm_fu (0 : Int32) m (by omega) (by omega) (by omega) hL hI hF ?_
      rw [z0]
      exact hV.all (by omega)
    · have ev : (v2 + (1 : Int32)).toInt = v2.toInt + 1 := a_addl L1 (by omega) (by omega)
      have hs2 : (v2 + (1 : Int32)).toNatClampNeg = v2.toNatClampNeg + 1 := by
        have := a_tn (x := v2 + (1 : Int32)) (by omega)
        omega
      exact lp_12 hJ _ v2 (by omega) (fun m' hL' hI' hF' hV' => ih (v2 + (1 : Int32)) m' (by omega) (by omega) (by omega) hL' hI' hF' (by rw [hs2]; exact hV')) sm_fu (0 : Int32) m (by omega) (by omega) (by omega) hL hI hF (by rw [z0]; exact hV)
/-- layPaths, then shortenPaths -/
theorem s_paths {m s : sm_S} (hL : XL m s) (hI : zI m) (hJ : zI s) (hC : zC s) : Sf (PTHq m s) ((fX1_layPaths m).bind fun m2 => fX1_shortenPaths m2) := by
  have l0 := L0
  have hfu := fuE
  have z0 : (0 : Int32).toNatClampNeg = 0 := by decide
  obtain ⟨eH, eC, bH, bC⟩ := t_n hJ
  unfold fX1_layPaths fX1_shortenPaths
  refine s_bd (lp_2 (m0 := m) hJ hC sm_fu (0 : Int32) m (by omega) (by omega) (by omega) hL hI Fr.refl (fun x y hx hy hp => ?_)) (fun m2 h2 => ?_)
  · rw [z0] at hp
    omega
  · obtain ⟨L2, I2, F2, V2⟩ := h2
    exact cp_2 hJ hC sm_fu (0 : Int32) m2 (by omega) (by omega) (by omega) L2 I2 F2 (by rw [z0]; exact V2)
