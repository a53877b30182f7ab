/-! THE CLASS'S TABLE OF PAIRS -/
def grI (s : sm_S) (a b : Nat) : Int32 := if a < 10 ∧ b < 10 then (fX12_grassOf (nI a) (nI b) s).getD 0 else 0
def grV (s : sm_S) (a b : Nat) : Int := (grI s a b).toInt
theorem e_gr12 {s : sm_S} (hJ : zI s) {x y : Int32} (hx : 0 ≤ x.toInt ∧ x.toInt ≤ 9) (hy : 0 ≤ y.toInt ∧ y.toInt ≤ 9) : fX12_grassOf x y s = some (grI s x.toNatClampNeg y.toNatClampNeg) ∧ 0 ≤ grV s x.toNatClampNeg y.toNatClampNeg ∧ grV s x.toNatClampNeg y.toNatClampNeg ≤ 36 := by
  have tx := a_tn hx.1
  have ty := a_tn hy.1
  obtain ⟨r, e, h1, h2⟩ := zX12_grassOf x y s ⟨hx.1, hx.2, hy.1, hy.2⟩ hJ
  have q : grI s x.toNatClampNeg y.toNatClampNeg = r := by
    unfold grI
    rw [if_pos ⟨by omega, by omega⟩, ← a_nI hx.1, ← a_nI hy.1, e]
    rfl
  have q2 : grV s x.toNatClampNeg y.toNatClampNeg = r.toInt := congrArg Int32.toInt q
  rw [q, q2]
  exact ⟨e, h1, h2⟩
theorem grV_b {s : sm_S} (hJ : zI s) (a b : Nat) : 0 ≤ grV s a b ∧ grV s a b ≤ 36 := by
  by_cases q : a < 10 ∧ b < 10
  · obtain ⟨a1, a2, a3⟩ := nI10 q.1
    obtain ⟨b1, b2, b3⟩ := nI10 q.2
    have := (e_gr12 hJ (x := nI a) (y := nI b) (by omega) (by omega)).2
    rw [a3, b3] at this
    exact this
  · have l0 := L0
    have e : grV s a b = (0 : Int32).toInt := by
      unfold grV grI
      rw [if_neg q]
    omega
theorem e_gr11 {m s : sm_S} (hL : XL m s) (hI : zI m) (hJ : zI s) {x y : Int32} (hx : 0 ≤ x.toInt ∧ x.toInt < (m.1 3 0).toInt) (hy : 0 ≤ y.toInt ∧ y.toInt < (m.1 3 0).toInt) : fX2_grassBetween x y m = some (grI s x.toNatClampNeg y.toNatClampNeg) := by
  have c30 : 0 ≤ (m.1 3 0).toInt ∧ (m.1 3 0).toInt ≤ 10 := hI.1 3 0
  have h1 : 0 ≤ x.toInt ∧ x.toInt < ((10 : Nat) : Int) := by omega
  have h2 : 0 ≤ y.toInt ∧ y.toInt < ((10 : Nat) : Int) := by omega
  have t1 := a_tn h1.1
  have t2 := a_tn h2.1
  obtain ⟨u1, u2⟩ := hL.1.2.2.1 x.toNatClampNeg (by omega)
  obtain ⟨w1, w2⟩ := hL.1.2.2.1 y.toNatClampNeg (by omega)
  rw [← (e_gr12 hJ (x := x) (y := y) (by omega) (by omega)).1]
  unfold fX2_grassBetween fX12_grassOf
  rw [if_pos (ix_in h1), if_pos (ix_in h2), if_pos (ix_in h1), if_pos (ix_in h2), if_pos (ix_in h1), if_pos (ix_in h2), if_pos (ix_in h1), if_pos (ix_in h2), u1, u2, w1, w2]
/-- the place of a set -/
def plT (o : Nat) (X : Int32) : Nat := 1024 * o + X.toNatClampNeg
theorem e_pl {o X : Int32} (ho : 0 ≤ o.toInt ∧ o.toInt ≤ 2) (hX : cX X) : ((o * (1024 : Int32)) + X).toInt = 1024 * o.toInt + X.toInt ∧ ((o * (1024 : Int32)) + X).toNatClampNeg = plT o.toNatClampNeg X := by
  obtain ⟨x0, x1⟩ := hX
  have l1024 : (1024 : Int32).toInt = 1024 := by decide
  have e1 : (o * (1024 : Int32)).toInt = o.toInt * 1024 := a_mul rfl l1024 (by omega) (by omega)
  have e2 : ((o * (1024 : Int32)) + X).toInt = 1024 * o.toInt + X.toInt := by
    rw [a_add (by omega) (by omega), e1]; omega
  have t1 := a_tn ho.1
  have t2 := a_tn x0
  have t3 := a_tn (x := (o * (1024 : Int32)) + X) (by omega)
  refine ⟨e2, ?_⟩
  unfold plT
  omega
theorem e_cp {m s : sm_S} (hL : XL m s) (hI : zI m) (hJ : zI s) (hK : (m.1 29 0).toInt = 3072) {a b R o : Int32} (ha : 0 ≤ a.toInt ∧ a.toInt < (m.1 3 0).toInt) (hb : 0 ≤ b.toInt ∧ b.toInt < (m.1 3 0).toInt) (hR : cX R) (ho : 0 ≤ o.toInt ∧ o.toInt ≤ 2) : Sf (fun r => r.toInt = min 65535 ((ln0 m (plT o.toNatClampNeg (gdel R b))).toInt + grV s a.toNatClampNeg b.toNatClampNeg)) (fX4_costWithPair a b R o m) := by
  have l65535 := L65535
  have hd := cX_del hR b
  obtain ⟨e1, e2⟩ := e_pl ho hd
  obtain ⟨d0, d1⟩ := hd
  have g := grV_b hJ a.toNatClampNeg b.toNatClampNeg
  have lb := ln0_b m (plT o.toNatClampNeg (gdel R b))
  have q : fX3_at ((o * (1024 : Int32)) + gdel R b) m = some (ln0 m (plT o.toNatClampNeg (gdel R b))) := by
    rw [← e2]
    exact e_at0 hI (by omega) (by omega)
  unfold fX4_costWithPair
  show Sf _ ((fX3_at ((o * (1024 : Int32)) + gdel R b) m).bind _)
  rw [q, Option.bind_some, e_gr11 hL hI hJ ha hb, Option.bind_some]
  refine s_ret ?_
  have eg : grV s a.toNatClampNeg b.toNatClampNeg = (grI s a.toNatClampNeg b.toNatClampNeg).toInt := rfl
  have es : (ln0 m (plT o.toNatClampNeg (gdel R b)) + grI s a.toNatClampNeg b.toNatClampNeg).toInt = (ln0 m (plT o.toNatClampNeg (gdel R b))).toInt + (grI s a.toNatClampNeg b.toNatClampNeg).toInt := a_add (by omega) (by omega)
  have qq := a_ilt (x := ln0 m (plT o.toNatClampNeg (gdel R b)) + grI s a.toNatClampNeg b.toNatClampNeg) (y := (65535 : Int32)) (a := ln0 m (plT o.toNatClampNeg (gdel R b)) + grI s a.toNatClampNeg b.toNatClampNeg) (b := (65535 : Int32))
  omega
theorem v_low (X : Int32) (m : sm_S) (hX : cX X) (hx : X ≠ 0) : ∀ (n : Nat) (v1 : Int32), 0 ≤ v1.toInt → v1.toInt ≤ 10 → 10 - v1.toInt < (n : Int) → (∀ j : Nat, (j : Int) < v1.toInt → bt X j = false) → Sf (fun r => r = nI (lwB (bt X) 10)) (fX4_lowestOf_2 n X v1 m) := by
  have l10 := L10
  intro n
  induction n with
  | zero => intro v1 h0 h1 hn; have hz : ((0 : Nat) : Int) = 0 := rfl; omega
  | succ n ih =>
    intro v1 h0 h1 hn hj
    have hnn : ((n + 1 : Nat) : Int) = (n : Int) + 1 := by omega
    have et := a_tn h0
    unfold fX4_lowestOf_2
    refine s_le (fun g => ?_) (fun g => ?_)
    · obtain ⟨i, hi, hb⟩ := cX_ex hX hx
      rw [hj i (by omega)] at hb; cases hb
    · have e1 : (v1 + (1 : Int32)).toInt = v1.toInt + 1 := a_addl L1 (by omega) (by omega)
      have h00 := b_has0 (x := X) h0 (show v1.toInt < 32 by omega)
      refine s_if (fun q => ?_) (fun q => s_ret ?_)
      · refine ih (v1 + (1 : Int32)) (by omega) (by omega) (by omega) (fun j hj2 => ?_)
        by_cases z : j = v1.toNatClampNeg
        · subst z; exact h00.mp q
        · exact hj j (by omega)
      · have hb : bt X v1.toNatClampNeg = true := by
          cases hb : bt X v1.toNatClampNeg with
          | true => rfl
          | false => exact absurd (h00.mpr hb) q
        rw [lwB_eq (n := 10) (f := bt X) (a := v1.toNatClampNeg) (by omega) hb (fun j hj2 => hj j (by omega))]
        exact a_nI h0
theorem v_c65 {m s : sm_S} (hL : XL m s) (hI : zI m) (hJ : zI s) (hK : (m.1 29 0).toInt = 3072) {a R o : Int32} (ha : 0 ≤ a.toInt ∧ a.toInt < (m.1 3 0).toInt) (hR : cX R) (ho : 0 ≤ o.toInt ∧ o.toInt ≤ 2) (st : Int) (hst : st ≤ 65535) (f : Nat → Int) (hf : ∀ b : Nat, b < nC s → bt R b = true → f b = grV s a.toNatClampNeg b + (ln0 m (plT o.toNatClampNeg (gdel R (nI b)))).toInt) : ∀ (n : Nat) (v6 v7 : Int32), 0 ≤ v7.toInt → v7.toInt ≤ (m.1 3 0).toInt → (m.1 3 0).toInt - v7.toInt < (n : Int) → v6.toInt = min st (mnB f (bt R) v7.toNatClampNeg) → Sf (fun r => r.toInt = min st (mnB f (bt R) (nC s))) (fX4_costOf_65 n o a R v6 v7 m) := by
  have e30 := hL.corner
  have c30 : 0 ≤ (m.1 3 0).toInt ∧ (m.1 3 0).toInt ≤ 10 := hI.1 3 0
  obtain ⟨eH, eC, bH, bC⟩ := t_n hJ
  intro n
  induction n with
  | zero => intro v6 v7 h0 h1 hn; have hz : ((0 : Nat) : Int) = 0 := rfl; omega
  | succ n ih =>
    intro v6 v7 h0 h1 hn hv
    have hnn : ((n + 1 : Nat) : Int) = (n : Int) + 1 := by omega
    have et := a_tn h0
    unfold fX4_costOf_65
    refine s_le (fun g => s_ret (by rw [hv, show v7.toNatClampNeg = nC s by omega])) (fun g => ?_)
    have e7 : (v7 + (1 : Int32)).toInt = v7.toInt + 1 := a_addl L1 (by omega) (by omega)
    have hs7 : (v7 + (1 : Int32)).toNatClampNeg = v7.toNatClampNeg + 1 := by
      have := a_tn (x := v7 + (1 : Int32)) (by omega)
      omega
    have h00 := b_has0 (x := R) h0 (show v7.toInt < 32 by omega)
    refine s_if (fun q => ?_) (fun q => ?_)
    · refine ih v6 (v7 + (1 : Int32)) (by omega) (by omega) (by omega) ?_
      rw [hs7, mnB_n (h00.mp q)]; exact hv
    · have hb : bt R v7.toNatClampNeg = true := by
        cases hb : bt R v7.toNatClampNeg with
        | true => rfl
        | false => exact absurd (h00.mpr hb) q
      refine s_bd (e_cp hL hI hJ hK ha ⟨h0, by omega⟩ hR ho) (fun r6 h6 => ?_)
      have hfb := hf v7.toNatClampNeg (by omega) hb
      rw [← a_nI h0] at hfb
      have qq := a_ilt (x := r6) (y := v6) (a := r6) (b := v6)
      have mt := mnB_top (f := f) (S := bt R) v7.toNatClampNeg
      refine ih _ (v7 + (1 : Int32)) (by omega) (by omega) (by omega) ?_
      rw [hs7, mnB_s hb]
      omega
/-- the least grass in this land -/
def GTv (s : sm_S) (o : Nat) (X : Int32) : Int := Gr (grV s) (nC s) o X
theorem GTv_b {s : sm_S} (hJ : zI s) {o : Nat} {X : Int32} (hX : cX X) : 0 ≤ GTv s o X ∧ GTv s o X ≤ 65535 := by
  obtain ⟨eH, eC, bH, bC⟩ := t_n hJ
  have := Gr_bd (gr := grV s) (C := nC s) (o := o) bC (grV_b hJ) hX
  have := pc_le X
  unfold GTv
  omega
theorem GTv_s {s : sm_S} (hJ : zI s) {o : Nat} {X : Int32} (hX : cX X) (h : X ≠ 0) : GTv s o X = min (if o = 0 then 65535 else GTv s (o - 1) (gdel X (nI (lwB (bt X) 10)))) (mnB (fun b => grV s (lwB (bt X) 10) b + GTv s o (gdel (gdel X (nI (lwB (bt X) 10))) (nI b))) (bt (gdel X (nI (lwB (bt X) 10)))) (nC s)) := Gr_s (t_n hJ).2.2.2 hX h
theorem s_cost {m s : sm_S} (hL : XL m s) (hI : zI m) (hJ : zI s) (hK : (m.1 29 0).toInt = 3072) {X o : Int32} (hX : cX X) (hXC : ∀ i : Nat, bt X i = true → i < nC s) (ho : 0 ≤ o.toInt ∧ o.toInt ≤ 2) (hT : ∀ (p : Nat) (Y : Int32), p ≤ o.toNatClampNeg → cX Y → Y.toInt < X.toInt → (∀ i : Nat, bt Y i = true → bt X i = true) → (ln0 m (plT p Y)).toInt = GTv s p Y) : Sf (fun r => r.toInt = GTv s o.toNatClampNeg X) (fX4_costOf X o m) := by
  have l0 := L0
  have l65535 := L65535
  have hfu := fuE
  have e30 := hL.corner
  have c30 : 0 ≤ (m.1 3 0).toInt ∧ (m.1 3 0).toInt ≤ 10 := hI.1 3 0
  have to := a_tn ho.1
  obtain ⟨eH, eC, bH, bC⟩ := t_n hJ
  unfold fX4_costOf
  refine s_eq (fun g => ?_) (fun g => ?_)
  · obtain rfl : X = 0 := eqI.mpr g
    have e0 : GTv s o.toNatClampNeg 0 = if o.toNatClampNeg = 0 then 0 else 65535 := Gr_0
    refine s_eq (fun g2 => s_ret ?_) (fun g2 => s_ret ?_)
    · rw [e0, if_pos (by omega)]; exact l0
    · rw [e0, if_neg (by omega)]; exact l65535
  · have hx : X ≠ 0 := fun z => g (congrArg Int32.toInt z)
    unfold fX4_lowestOf
    refine s_bd (v_low X m hX hx sm_fu (0 : Int32) (by omega) (by omega) (by omega) (fun j hj => by omega)) (fun r2 h2 => ?_)
    obtain ⟨la, lb, lc⟩ := lwB_lo (cX_ex hX hx)
    have hsub : ∀ i : Nat, bt (gdel X (nI (lwB (bt X) 10))) i = true → bt X i = true ∧ i ≠ lwB (bt X) 10 := fun i hi => by
      rcases Nat.lt_or_ge i 32 with z | z
      · rw [cX_bt la z] at hi
        obtain ⟨p1, p2⟩ := Bool.and_eq_true_iff.mp hi
        exact ⟨p1, fun y => by rw [decide_eq_true y] at p2; cases p2⟩
      · rw [b_big z] at hi; cases hi
    obtain ⟨a0, a1, a2⟩ := nI10 la
    have hl := hXC _ lb
    have hlt := (gdel_lt (X := X) (h := nI (lwB (bt X) 10)) hX.1 a0 (by omega) (by rw [a2]; exact lb)).2
    have hGT := GTv_s hJ (o := o.toNatClampNeg) hX hx
    have hTR : ∀ p : Nat, p ≤ o.toNatClampNeg → (ln0 m (plT p (gdel X (nI (lwB (bt X) 10))))).toInt = GTv s p (gdel X (nI (lwB (bt X) 10))) := fun p hp => hT p _ hp (cX_del hX _) hlt (fun i hi => (hsub i hi).1)
    have hTB : ∀ b : Nat, b < nC s → bt (gdel X (nI (lwB (bt X) 10))) b = true → (ln0 m (plT o.toNatClampNeg (gdel (gdel X (nI (lwB (bt X) 10))) (nI b)))).toInt = GTv s o.toNatClampNeg (gdel (gdel X (nI (lwB (bt X) 10))) (nI b)) := fun b hb hbb => by
      obtain ⟨b0, b1, b2⟩ := nI10 (b := b) (by omega)
      have hle := (a_andl (x := gdel X (nI (lwB (bt X) 10))) (y := ((1 : Int32) <<< ((nI b) &&& 31)) ^^^ (-1 : Int32)) (cX_del hX _).1).2
      refine hT _ _ (Nat.le_refl _) (cX_del (cX_del hX _) _) (Int.lt_of_le_of_lt hle hlt) (fun i hi => ?_)
      rcases Nat.lt_or_ge i 32 with z | z
      · rw [cX_bt (by omega) z] at hi
        exact (hsub i (Bool.and_eq_true_iff.mp hi).1).1
      · rw [b_big z] at hi; cases hi
    have hnone : mnB (fun b => grV s (lwB (bt X) 10) b + GTv s o.toNatClampNeg (gdel (gdel X (nI (lwB (bt X) 10))) (nI b))) (bt (gdel X (nI (lwB (bt X) 10)))) (lwB (bt X) 10 + 1) = 65535 := mnB_none (fun b hb => by
      cases hq : bt (gdel X (nI (lwB (bt X) 10))) b with
      | false => rfl
      | true =>
        obtain ⟨p1, p2⟩ := hsub b hq
        rw [lc b (by omega)] at p1; cases p1)
    subst h2
    have e1 : ((nI (lwB (bt X) 10)) + (1 : Int32)).toInt = (nI (lwB (bt X) 10)).toInt + 1 := a_addl L1 (by omega) (by omega)
    have t0 := a_tn a0
    have t1 : ((nI (lwB (bt X) 10)) + (1 : Int32)).toNatClampNeg = lwB (bt X) 10 + 1 := by
      have := a_tn (x := (nI (lwB (bt X) 10)) + (1 : Int32)) (by omega)
      omega
    have key : ∀ (st v : Int32), v.toInt = st.toInt → st.toInt ≤ 65535 → GTv s o.toNatClampNeg X = min st.toInt (mnB (fun b => grV s (lwB (bt X) 10) b + GTv s o.toNatClampNeg (gdel (gdel X (nI (lwB (bt X) 10))) (nI b))) (bt (gdel X (nI (lwB (bt X) 10)))) (nC s)) → Sf (fun r => r.toInt = GTv s o.toNatClampNeg X) (fX4_costOf_65 sm_fu o (nI (lwB (bt X) 10)) (gdel X (nI (lwB (bt X) 10))) v ((nI (lwB (bt X) 10)) + (1 : Int32)) m) := fun st v hv h65 hG => by
      rw [hG]
      refine v_c65 hL hI hJ hK (a := nI (lwB (bt X) 10)) (by omega) (cX_del hX _) ho st.toInt h65 _ (fun b hb hbb => ?_) sm_fu v _ (by omega) (by omega) (by omega) ?_
      · rw [a2]
        show grV s (lwB (bt X) 10) b + GTv s o.toNatClampNeg (gdel (gdel X (nI (lwB (bt X) 10))) (nI b)) = _
        rw [hTB b hb hbb]
      · rw [t1, hnone]; omega
    refine s_eq (fun g2 => ?_) (fun g2 => ?_)
    · refine key (65535 : Int32) (65535 : Int32) rfl (by omega) ?_
      rw [hGT, if_pos (show o.toNatClampNeg = 0 by omega), l65535]
    · have eo : (o - (1 : Int32)).toInt = o.toInt - 1 := a_subl L1 (by omega) (by omega)
      have teo : (o - (1 : Int32)).toNatClampNeg = o.toNatClampNeg - 1 := by
        have := a_tn (x := o - (1 : Int32)) (by omega)
        omega
      obtain ⟨e2, e3⟩ := e_pl (o := o - (1 : Int32)) (X := gdel X (nI (lwB (bt X) 10))) (by omega) (cX_del hX _)
      obtain ⟨d0, d1⟩ := cX_del hX (nI (lwB (bt X) 10))
      have q : fX3_at (((o - (1 : Int32)) * (1024 : Int32)) + gdel X (nI (lwB (bt X) 10))) m = some (ln0 m (plT (o.toNatClampNeg - 1) (gdel X (nI (lwB (bt X) 10))))) := by
        rw [← teo, ← e3]
        exact e_at0 hI (by omega) (by omega)
      show Sf _ ((fX3_at (((o - (1 : Int32)) * (1024 : Int32)) + gdel X (nI (lwB (bt X) 10))) m).bind _)
      rw [q, Option.bind_some]
      have hr := hTR (o.toNatClampNeg - 1) (by omega)
      have lb4 := ln0_b m (plT (o.toNatClampNeg - 1) (gdel X (nI (lwB (bt X) 10))))
      refine key _ _ rfl (by omega) ?_
      rw [hGT, if_neg (show ¬ o.toNatClampNeg = 0 by omega), hr]
/-- what the table holds so far: of sets in O with p left alone -/
def TBv (s m : sm_S) (O : Int32) (o X : Int) : Prop := ∀ (p : Nat) (Y : Int32), cX Y → (∀ i : Nat, bt Y i = true → bt O i = true) → ((p : Int) < o ∨ ((p : Int) = o ∧ Y.toInt < X)) → (ln0 m (plT p Y)).toInt = GTv s p Y
theorem v_tp14 : ∀ (n : Nat) (v5 v6 v7 : Int32) (m r : sm_S), fX4_tellPairs_14 n v5 v6 v7 m = some r → r.2 = m.2 := by
  have hadd : ∀ (v : Int32) (m r : sm_S), fX5_add v m = some r → r.2 = m.2 := by
    intro v m r h
    unfold fX5_add at h
    split at h
    · obtain rfl := Option.some.inj h; rfl
    · split at h
      · obtain rfl := Option.some.inj h; rfl
      · cases h
  intro n
  induction n with
  | zero => intro v5 v6 v7 m r h; cases h
  | succ n ih =>
    intro v5 v6 v7 m r h
    unfold fX4_tellPairs_14 at h
    split at h
    · obtain rfl := Option.some.inj h; rfl
    · split at h
      · exact ih _ _ _ _ _ h
      · obtain ⟨r4, e4, h⟩ := tds h
        split at h
        · obtain ⟨m6, e6, h⟩ := tds h
          obtain ⟨m8, e8, h⟩ := tds h
          rw [ih _ _ _ _ _ h, hadd _ _ _ e8, hadd _ _ _ e6]
        · exact ih _ _ _ _ _ h
theorem v_tp {v5 v6 : Int32} {m r : sm_S} (h : fX4_tellPairs v5 v6 m = some r) : r.2 = m.2 := by
  unfold fX4_tellPairs at h
  obtain ⟨m2, e2, h⟩ := tds h
  have e : m2.2 = m.2 := by
    unfold fX5_clear at e2
    obtain rfl := Option.some.inj e2; rfl
  rw [v_tp14 _ _ _ _ _ _ h, e]
theorem zI.same0 {m m' : sm_S} (h : zI m) (e : m'.1 = m.1) : zI m' := by
  unfold zI zP zH zK at h ⊢
  rw [e]; exact h
theorem XL.same0 {m m' s : sm_S} (h : XL m s) (e : m'.1 = m.1) : XL m' s := by
  unfold XL XP RP at h ⊢
  rw [e]; exact h
