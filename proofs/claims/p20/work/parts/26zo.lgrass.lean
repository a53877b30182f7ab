/-! THE CLASS'S LEAST GRASS -/
theorem TBv.put {s m m' : sm_S} {O o X v : Int32} (hO : cX X) (ho : 0 ≤ o.toInt) (h : TBv s m O o.toInt X.toInt) (hm : ∀ q : Nat, ln0 m' q = if q = plT o.toNatClampNeg X then v else ln0 m q) (hv : (∀ i : Nat, bt X i = true → bt O i = true) → v.toInt = GTv s o.toNatClampNeg X) : TBv s m' O o.toInt (X.toInt + 1) := by
  intro p Y hY hs hp
  have to := a_tn ho
  obtain ⟨x0, x1⟩ := hO
  obtain ⟨y0, y1⟩ := hY
  have tx := a_tn x0
  have ty := a_tn y0
  rw [hm]
  by_cases q : plT p Y = plT o.toNatClampNeg X
  · rw [if_pos q]
    unfold plT at q
    have e1 : p = o.toNatClampNeg := by omega
    have e2 : Y = X := eqI.mpr (by omega)
    subst e2
    rw [e1]
    exact hv hs
  · rw [if_neg q]
    refine h p Y ⟨y0, y1⟩ hs ?_
    rcases hp with hp | ⟨hp, hp2⟩
    · exact Or.inl hp
    · refine Or.inr ⟨hp, ?_⟩
      have : Y.toInt ≠ X.toInt := fun z => q (by unfold plT; omega)
      omega
theorem v_lg22 {s : sm_S} (hJ : zI s) {O : Int32} (hOC : ∀ i : Nat, bt O i = true → i < nC s) (v2 : Int32) (k13 : Int32 → Int32 → Int32 → sm_S → Option (Int32 × sm_S)) (Q : Int32 × sm_S → Prop) (o : Int32) (ho : 0 ≤ o.toInt ∧ o.toInt ≤ 2) (hk : ∀ m : sm_S, XL m s → zI m → (m.1 29 0).toInt = 3072 → TBv s m O (o.toInt + 1) 0 → Sf Q (k13 v2 O (o + (1 : Int32)) m)) : ∀ (n : Nat) (v6 : Int32) (m : sm_S), XL m s → zI m → (m.1 29 0).toInt = 3072 → 0 ≤ v6.toInt → v6.toInt ≤ ((2 ^ nC s : Nat) : Int) → ((2 ^ nC s : Nat) : Int) - v6.toInt < (n : Int) → TBv s m O o.toInt v6.toInt → Sf Q (fX4_leastGrass_22 k13 n v2 O o v6 m) := by
  have l65535 := L65535
  obtain ⟨eH, eC, bH, bC⟩ := t_n hJ
  have hp1 : 0 < 2 ^ nC s := Nat.two_pow_pos _
  have hp2 : 2 ^ nC s ≤ 1024 := Nat.pow_le_pow_right (n := 2) (by decide) bC
  have to := a_tn ho.1
  intro n
  induction n with
  | zero => intro v6 m hL hI hK h0 h1 hn; have hz : ((0 : Nat) : Int) = 0 := rfl; omega
  | succ n ih =>
    intro v6 m hL hI hK h0 h1 hn hT
    have hnn : ((n + 1 : Nat) : Int) = (n : Int) + 1 := by omega
    have e30 : m.1 3 0 = s.1 72 3 := hL.1.1
    have esh : ((1 : Int32) <<< ((m.1 3 0) &&& 31)).toInt = ((2 ^ nC s : Nat) : Int) := by
      rw [e30]
      exact a_shlE (x := s.1 72 3) (by omega) (by omega)
    unfold fX4_leastGrass_22
    refine s_le (fun g => ?_) (fun g => ?_)
    · refine hk m hL hI hK (fun p Y hY hs hp => hT p Y hY hs ?_)
      rcases hp with hp | ⟨hp, hp2⟩
      · by_cases q : (p : Int) < o.toInt
        · exact Or.inl q
        · refine Or.inr ⟨by omega, ?_⟩
          have := g_pow (X := Y) (k := nC s) hY.1 (fun i _ hb => hOC i (hs i hb))
          omega
      · have := hY.1; omega
    · have e6 : (v6 + (1 : Int32)).toInt = v6.toInt + 1 := a_addl L1 (by omega) (by omega)
      have hX : cX v6 := ⟨h0, by omega⟩
      obtain ⟨e1, e2⟩ := e_pl ho hX
      have hput : ∀ v : Int32, 0 ≤ v.toInt ∧ v.toInt ≤ 65535 → ((∀ i : Nat, bt v6 i = true → bt O i = true) → v.toInt = GTv s o.toNatClampNeg v6) → Sf Q ((fX3_put ((o * (1024 : Int32)) + v6) v m).bind fun m10 => fX4_leastGrass_22 k13 n v2 O o (v6 + (1 : Int32)) m10) := by
        intro v hv hG
        obtain ⟨m', em, hm1, -, hm⟩ := e_put0 (x := (o * (1024 : Int32)) + v6) (v := v) hI (by omega) (by omega) hv
        rw [em, Option.bind_some]
        rw [e2] at hm
        refine ih (v6 + (1 : Int32)) m' (hL.same0 hm1) (hI.same0 hm1) (by rw [hm1]; exact hK) (by omega) (by omega) (by omega) ?_
        rw [e6]
        exact TBv.put hX ho.1 hT hm hG
      refine s_if (fun q => ?_) (fun q => ?_)
      · have hsub : ∀ i : Nat, bt v6 i = true → bt O i = true := fun i hb => by
          rcases Nat.lt_or_ge i 32 with z | z
          · have := congrArg (fun y => bt y i) q
            simp only [b_and, b_xor, b_0] at this
            rw [hb, b_m1 i z] at this
            cases hO : bt O i with
            | true => rfl
            | false => rw [hO] at this; cases this
          · rw [b_big z] at hb; cases hb
        refine s_bd (s_cost hL hI hJ hK hX (fun i hb => hOC i (hsub i hb)) ho (fun p Y hp hY hlt hs => hT p Y hY (fun i hb => hsub i (hs i hb)) ?_)) (fun r12 h12 => ?_)
        · by_cases z : (p : Int) < o.toInt
          · exact Or.inl z
          · exact Or.inr ⟨by omega, hlt⟩
        · have hb := GTv_b hJ (o := o.toNatClampNeg) hX
          exact hput r12 (by omega) (fun _ => h12)
      · refine hput (65535 : Int32) (by omega) (fun z => absurd (b_ext (fun i hi => ?_)) q)
        rw [b_and, b_xor, b_m1 i hi, b_0]
        cases hb : bt v6 i with
        | false => rfl
        | true => rw [z i hb]; rfl
theorem v_lg13 {s : sm_S} (hJ : zI s) {O : Int32} (hO : cX O) (hOC : ∀ i : Nat, bt O i = true → i < nC s) (v2 : Int32) (h2 : 0 ≤ v2.toInt ∧ v2.toInt ≤ 2) : ∀ (n : Nat) (v5 : Int32) (m : sm_S), XL m s → zI m → (m.1 29 0).toInt = 3072 → 0 ≤ v5.toInt → v5.toInt ≤ v2.toInt + 1 → v2.toInt + 1 - v5.toInt < (n : Int) → TBv s m O v5.toInt 0 → Sf (fun r => r.1.toInt = GTv s v2.toNatClampNeg O) (fX4_leastGrass_13 n v2 O v5 m) := by
  have l0 := L0
  have hfu := fuE
  obtain ⟨eH, eC, bH, bC⟩ := t_n hJ
  have hp1 : 0 < 2 ^ nC s := Nat.two_pow_pos _
  have hp2 : 2 ^ nC s ≤ 1024 := Nat.pow_le_pow_right (n := 2) (by decide) bC
  have t2 := a_tn h2.1
  intro n
  induction n with
  | zero => intro v5 m hL hI hK h0 h1 hn; have hz : ((0 : Nat) : Int) = 0 := rfl; omega
  | succ n ih =>
    intro v5 m hL hI hK h0 h1 hn hT
    have hnn : ((n + 1 : Nat) : Int) = (n : Int) + 1 := by omega
    unfold fX4_leastGrass_13
    refine s_lt (fun g => ?_) (fun g => ?_)
    · obtain ⟨m6, em, -, i6, F6⟩ := zX4_tellPairs O v2 m ⟨hO.1, hO.2, h2.1, h2.2⟩ hI
      have e2 := v_tp em
      have hl : ∀ q : Nat, ln0 m6 q = ln0 m q := fun q => by unfold ln0; rw [e2]
      have k6 : (m6.1 29 0).toInt = 3072 := by rw [F6 29 0 rfl]; exact hK
      obtain ⟨e1, e3⟩ := e_pl h2 hO
      obtain ⟨o0, o1⟩ := hO
      rw [em, Option.bind_some, e_at0 i6 (x := (v2 * (1024 : Int32)) + O) (by omega) (by omega), Option.bind_some]
      refine s_ret ?_
      show (ln0 m6 ((v2 * (1024 : Int32)) + O).toNatClampNeg).toInt = _
      rw [e3, hl]
      exact hT _ O ⟨o0, o1⟩ (fun i hb => hb) (Or.inl (by omega))
    · have e5 : (v5 + (1 : Int32)).toInt = v5.toInt + 1 := a_addl L1 (by omega) (by omega)
      refine v_lg22 hJ hOC v2 (fX4_leastGrass_13 n) _ v5 (by omega) (fun m' hL' hI' hK' hT' => ?_) sm_fu (0 : Int32) m hL hI hK (by omega) (by omega) (by omega) (by rw [l0]; exact hT)
      refine ih (v5 + (1 : Int32)) m' hL' hI' hK' (by omega) (by omega) (by omega) ?_
      rw [e5]; exact hT'
/-! THE REFERENCE'S RECURSION -/
def cbv (B v t : Int) : Int := if 65535 ≤ t then B else if B < 0 then v + t else min B (v + t)
theorem cb_a {B v t : Int} (h : 65535 ≤ t) : cbv B v t = B := if_pos h
theorem cb_b {B v t : Int} (h : t < 65535) (hB : B < 0) : cbv B v t = v + t := by
  unfold cbv
  rw [if_neg (by omega), if_pos hB]
theorem cb_c {B v t : Int} (h : t < 65535) (hB : 0 ≤ B) : cbv B v t = min B (v + t) := by
  unfold cbv
  rw [if_neg (by omega), if_neg (by omega)]
theorem cb_min {B v t1 t2 : Int} (hv : 0 ≤ v) (h1 : 0 ≤ t1) (h2 : 0 ≤ t2) : cbv (cbv B v t1) v t2 = cbv B v (min t1 t2) := by
  rcases Int.lt_or_le t1 65535 with a | a
  · rcases Int.lt_or_le t2 65535 with b | b
    · rcases Int.lt_or_le B 0 with c | c
      · rw [cb_b a c, cb_c b (by omega), cb_b (by omega) c]; omega
      · rw [cb_c a c, cb_c b (by omega), cb_c (by omega) c]; omega
    · rw [cb_a b, show min t1 t2 = t1 by omega]
  · rcases Int.lt_or_le t2 65535 with b | b
    · rw [cb_a a, show min t1 t2 = t2 by omega]
    · rw [cb_a b, cb_a a, cb_a (by omega)]
theorem cb_add {B v g t : Int} (hg : 0 ≤ g ∧ g ≤ 36) (ht : t = 65535 ∨ (0 ≤ t ∧ t ≤ 400)) : cbv B (v + g) t = cbv B v (g + t) := by
  rcases ht with ht | ht
  · rw [cb_a (by omega), cb_a (by omega)]
  · rcases Int.lt_or_le B 0 with c | c
    · rw [cb_b (by omega) c, cb_b (by omega) c]; omega
    · rw [cb_c (by omega) c, cb_c (by omega) c]; omega
theorem s_both {α : Type} {P Q : α → Prop} {o : Option α} (h : Sf P o) (k : Sf Q o) : Sf (fun r => P r ∧ Q r) o := by
  obtain ⟨r, e, h⟩ := h
  obtain ⟨r', e', k⟩ := k
  obtain rfl := Option.some.inj (e.symm.trans e')
  exact ⟨r, e, h, k⟩
theorem ntz_low : ∀ n, n < 1024 → n ≠ 0 → (match fJ6_numberOfTrailingZeros_0f7a4 (nI n) (fun _ _ => 0, fun _ _ => 0) with | some r => decide (r = nI (lwB (bt (nI n)) 10)) | none => false) = true := by decide +kernel
theorem s_ntz {x : Int32} (m : sm_S) (hX : cX x) (hx : x ≠ 0) : Sf (fun r => r = nI (lwB (bt x) 10)) (fJ6_numberOfTrailingZeros_0f7a4 x m) := by
  have e := a_tn hX.1
  have e1 := a_nI hX.1
  have h2 := hX.2
  have hx2 : x.toInt ≠ 0 := fun z => hx (eqI.mpr (by rw [z]; exact L0.symm))
  have h := ntz_low x.toNatClampNeg (by omega) (by omega)
  rw [← e1] at h
  have h3 : fJ6_numberOfTrailingZeros_0f7a4 x (fun _ _ => 0, fun _ _ => 0) = fJ6_numberOfTrailingZeros_0f7a4 x m := rfl
  rw [h3] at h
  cases hr : fJ6_numberOfTrailingZeros_0f7a4 x m with
  | none => rw [hr] at h; cases h
  | some r =>
    rw [hr] at h
    exact ⟨r, rfl, of_decide_eq_true h⟩
theorem gr_same {s0 s : sm_S} (F : Fr wX12_couples s0 s) (a b : Nat) : grI s a b = grI s0 a b := by
  have h74 : ∀ j, s.1 74 j = s0.1 74 j := fun j => F 74 j rfl
  have h75 : ∀ j, s.1 75 j = s0.1 75 j := fun j => F 75 j rfl
  unfold grI fX12_grassOf
  rw [h74, h74, h75, h75]
def cpv (s0 : sm_S) (k : Nat) (rec : Int32 → Int32 → Int32 → sm_S → Option sm_S) : Prop := ∀ (x1 x2 x3 : Int32) (m : sm_S), cX x1 → (0 ≤ x2.toInt ∧ x2.toInt ≤ 2) → (pc x1 : Int) < (k : Int) → (m.1 72 42).toInt + (pc x1 : Int) ≤ 10 → 0 ≤ x3.toInt → x3.toInt + 36 * (pc x1 : Int) ≤ 360 → zI m → Fr wX12_couples s0 m → Sf (fun r => (r.1 72 46).toInt = cbv (m.1 72 46).toInt x3.toInt (GTv s0 x2.toNatClampNeg x1)) (rec x1 x2 x3 m)
theorem v_66 (rec : Int32 → Int32 → Int32 → sm_S → Option sm_S) : ∀ (n : Nat) (v5 : Int32) (m r : sm_S), fX12_couples_66 rec n v5 m = some r → r.1 72 46 = m.1 72 46 := by
  intro n
  induction n with
  | zero => intro v5 m r h; cases h
  | succ n ih =>
    intro v5 m r h
    unfold fX12_couples_66 at h
    split at h
    · obtain rfl := Option.some.inj h; rfl
    · split at h
      · have e := ih _ _ _ h
        exact e
      · cases h
theorem v_118 (s0 : sm_S) (hJ0 : zI s0) (k : Nat) (rec : Int32 → Int32 → Int32 → sm_S → Option sm_S) (hr1 : cpl k rec) (hr2 : cpv s0 k rec) (a R o x3 : Int32) (B0 : Int) (ha : 0 ≤ a.toInt ∧ a.toInt ≤ 9) (hR : cX R) (ho : 0 ≤ o.toInt ∧ o.toInt ≤ 2) (hx3 : 0 ≤ x3.toInt) (hx4 : x3.toInt + 36 * ((pc R : Int) + 1) ≤ 360) (hpk : (pc R : Int) < (k : Int)) : ∀ (n : Nat) (v6 : Int32) (m : sm_S), 0 ≤ v6.toInt → v6.toInt ≤ 10 → 10 - v6.toInt < (n : Int) → (m.1 72 42).toInt + (pc R : Int) + 1 ≤ 10 → zI m → Fr wX12_couples s0 m → (v6.toNatClampNeg ≤ nC s0 → (m.1 72 46).toInt = cbv B0 x3.toInt (mnB (fun b => grV s0 a.toNatClampNeg b + GTv s0 o.toNatClampNeg (gdel R (nI b))) (bt R) v6.toNatClampNeg)) → (nC s0 < v6.toNatClampNeg → (m.1 72 46).toInt = cbv B0 x3.toInt (mnB (fun b => grV s0 a.toNatClampNeg b + GTv s0 o.toNatClampNeg (gdel R (nI b))) (bt R) (nC s0))) → Sf (fun r => (r.1 72 46).toInt = cbv B0 x3.toInt (min (if o.toNatClampNeg = 0 then 65535 else GTv s0 (o.toNatClampNeg - 1) R) (mnB (fun b => grV s0 a.toNatClampNeg b + GTv s0 o.toNatClampNeg (gdel R (nI b))) (bt R) (nC s0)))) (fX12_couples_118 rec n o x3 a R v6 m) := by
  have l0 := L0
  have l2 := L2
  have to := a_tn ho.1
  obtain ⟨eH, eC, bH, bC⟩ := t_n hJ0
  have hM0 : ∀ N : Nat, N ≤ 10 → 0 ≤ mnB (fun b => grV s0 a.toNatClampNeg b + GTv s0 o.toNatClampNeg (gdel R (nI b))) (bt R) N := fun N hN => by
    have := mnB_bd (f := fun b => grV s0 a.toNatClampNeg b + GTv s0 o.toNatClampNeg (gdel R (nI b))) (S := bt R) (K := 65600) (n := N) (fun b hb hs => by
      have g1 := grV_b hJ0 a.toNatClampNeg b
      have g2 := GTv_b hJ0 (o := o.toNatClampNeg) (cX_del hR (nI b))
      show 65535 ≤ grV s0 a.toNatClampNeg b + GTv s0 o.toNatClampNeg (gdel R (nI b)) ∨ (0 ≤ grV s0 a.toNatClampNeg b + GTv s0 o.toNatClampNeg (gdel R (nI b)) ∧ grV s0 a.toNatClampNeg b + GTv s0 o.toNatClampNeg (gdel R (nI b)) ≤ 65600)
      omega)
    omega
  intro n
  induction n with
  | zero => intro v6 m h0 h1 hn; have hz : ((0 : Nat) : Int) = 0 := rfl; omega
  | succ n ih =>
    intro v6 m h0 h1 hn h42 hI hF hB hB2
    have hnn : ((n + 1 : Nat) : Int) = (n : Int) + 1 := by omega
    have c42 : 0 ≤ (m.1 72 42).toInt ∧ (m.1 72 42).toInt ≤ 10 := hI.1 72 42
    have et := a_tn h0
    have e3 : (m.1 72 3).toInt = (s0.1 72 3).toInt := congrArg Int32.toInt (hF 72 3 rfl)
    have c3 : 0 ≤ (s0.1 72 3).toInt ∧ (s0.1 72 3).toInt ≤ 10 := hJ0.1 72 3
    unfold fX12_couples_118
    refine s_le (fun g => ?_) (fun g => ?_)
    · have hB' : (m.1 72 46).toInt = cbv B0 x3.toInt (mnB (fun b => grV s0 a.toNatClampNeg b + GTv s0 o.toNatClampNeg (gdel R (nI b))) (bt R) (nC s0)) := by
        by_cases q : v6.toNatClampNeg ≤ nC s0
        · have := hB q
          rw [show v6.toNatClampNeg = nC s0 by omega] at this
          exact this
        · exact hB2 (by omega)
      have hM := hM0 (nC s0) bC
      have hMt := mnB_top (f := fun b => grV s0 a.toNatClampNeg b + GTv s0 o.toNatClampNeg (gdel R (nI b))) (S := bt R) (nC s0)
      refine s_le (fun g2 => s_ret ?_) (fun g2 => ?_)
      · rw [hB', if_pos (show o.toNatClampNeg = 0 by omega)]
        congr 1
        omega
      · have e1 : (o - (1 : Int32)).toInt = o.toInt - 1 := a_subl L1 (by omega) (by omega)
        have te1 : (o - (1 : Int32)).toNatClampNeg = o.toNatClampNeg - 1 := by
          have := a_tn (x := o - (1 : Int32)) (by omega)
          omega
        refine s_bd (hr2 R (o - (1 : Int32)) x3 m hR (by omega) hpk (by omega) hx3 (by omega) hI hF) (fun r hr => s_ret ?_)
        have gb := GTv_b hJ0 (o := o.toNatClampNeg - 1) hR
        rw [hr, te1, hB', cb_min hx3 hM gb.1, if_neg (show ¬ o.toNatClampNeg = 0 by omega)]
        congr 1
        omega
    · have hle : v6.toNatClampNeg < nC s0 := by omega
      have hB' := hB (by omega)
      have hb := b_has (x := R) (b := v6) (by omega) (by omega)
      have e1 : (v6 + (1 : Int32)).toInt = v6.toInt + 1 := a_addl L1 (by omega) (by omega)
      have t1 : (v6 + (1 : Int32)).toNatClampNeg = v6.toNatClampNeg + 1 := by
        have := a_tn (x := v6 + (1 : Int32)) (by omega)
        omega
      refine s_bd (zX12_has2 R v6 m (by omega)) (fun r6 h6 => ?_)
      refine s_eq (fun g2 => ?_) (fun g2 => ?_)
      · have hf := has_f h6 (by omega)
        refine ih (v6 + (1 : Int32)) m (by omega) (by omega) (by omega) h42 hI hF (fun _ => ?_) (fun z => by omega)
        rw [t1, mnB_n hf]; exact hB'
      · have ht := has_t h6 (by omega)
        obtain ⟨b0, b1, b2⟩ := nI10 (b := v6.toNatClampNeg) (by omega)
        have hd : pc (gdel R v6) + 1 = pc R := pc_del (x := R) (b := v6) h0 (by omega) ht
        have x1 : 0 ≤ (m.1 72 42).toInt ∧ (m.1 72 42).toInt < ((10 : Nat) : Int) := by omega
        have e2 : ((m.1 72 42) + (1 : Int32)).toInt = (m.1 72 42).toInt + 1 := a_addl L1 (by omega) (by omega)
        have e4 : ((m.1 72 42) + (2 : Int32)).toInt = (m.1 72 42).toInt + 2 := a_addl L2 (by omega) (by omega)
        refine s_ix x1 (s_ix (by omega) ?_)
        have i1 : zI (sm_w1 (sm_w1 (sm_w1 m 96 (m.1 72 42).toNatClampNeg a) 96 ((m.1 72 42) + (1 : Int32)).toNatClampNeg v6) 72 42 ((m.1 72 42) + (2 : Int32))) := zI.w (zI.w (zI.w hI rfl (rg _)) rfl (rg _)) rfl (show 0 ≤ ((m.1 72 42) + (2 : Int32)).toInt ∧ ((m.1 72 42) + (2 : Int32)).toInt ≤ 10 by omega)
        have f1 : Fr wX12_couples s0 (sm_w1 (sm_w1 (sm_w1 m 96 (m.1 72 42).toNatClampNeg a) 96 ((m.1 72 42) + (1 : Int32)).toNatClampNeg v6) 72 42 ((m.1 72 42) + (2 : Int32))) := Fr.w (Fr.w (Fr.w hF rfl) rfl) rfl
        have eB : (sm_w1 (sm_w1 (sm_w1 m 96 (m.1 72 42).toNatClampNeg a) 96 ((m.1 72 42) + (1 : Int32)).toNatClampNeg v6) 72 42 ((m.1 72 42) + (2 : Int32))).1 72 46 = m.1 72 46 := rfl
        have eq2 : ((sm_w1 (sm_w1 (sm_w1 m 96 (m.1 72 42).toNatClampNeg a) 96 ((m.1 72 42) + (1 : Int32)).toNatClampNeg v6) 72 42 ((m.1 72 42) + (2 : Int32))).1 72 42).toInt = (m.1 72 42).toInt + 2 := e4
        generalize sm_w1 (sm_w1 (sm_w1 m 96 (m.1 72 42).toNatClampNeg a) 96 ((m.1 72 42) + (1 : Int32)).toNatClampNeg v6) 72 42 ((m.1 72 42) + (2 : Int32)) = S at i1 f1 eB eq2 ⊢
        obtain ⟨g1, g3, g4⟩ := e_gr12 i1 (x := a) (y := v6) ha (by omega)
        have gs : grI S a.toNatClampNeg v6.toNatClampNeg = grI s0 a.toNatClampNeg v6.toNatClampNeg := gr_same f1 _ _
        have gv : (grI s0 a.toNatClampNeg v6.toNatClampNeg).toInt = grV s0 a.toNatClampNeg v6.toNatClampNeg := rfl
        have gb := grV_b hJ0 a.toNatClampNeg v6.toNatClampNeg
        have ev : (x3 + grI s0 a.toNatClampNeg v6.toNatClampNeg).toInt = x3.toInt + grV s0 a.toNatClampNeg v6.toNatClampNeg := by
          rw [a_add (by omega) (by omega), gv]
        rw [g1, Option.bind_some, gs]
        refine s_bd (s_both (hr1 (gdel R v6) o (x3 + grI s0 a.toNatClampNeg v6.toNatClampNeg) S ⟨(cX_del hR v6).1, (cX_del hR v6).2, ho.1, ho.2, by omega, by omega⟩ i1) (hr2 (gdel R v6) o (x3 + grI s0 a.toNatClampNeg v6.toNatClampNeg) S (cX_del hR v6) ho (by omega) (by omega) (by omega) (by omega) i1 f1)) (fun m12 h12 => ?_)
        obtain ⟨⟨j1, j2, j3⟩, j4⟩ := h12
        have e5 : ((m12.1 72 42) - (2 : Int32)).toInt = (m12.1 72 42).toInt - 2 := a_subl L2 (by omega) (by omega)
        have e6 : ((sm_w1 m12 72 42 ((m12.1 72 42) - (2 : Int32))).1 72 42).toInt = ((m12.1 72 42) - (2 : Int32)).toInt := rfl
        refine ih (v6 + (1 : Int32)) _ (by omega) (by omega) (by omega) (by omega) (zI.w j1 rfl (show 0 ≤ ((m12.1 72 42) - (2 : Int32)).toInt ∧ ((m12.1 72 42) - (2 : Int32)).toInt ≤ 10 by omega)) (Fr.w (Fr.trans f1 j2 rfl) rfl) (fun _ => ?_) (fun z => by omega)
        have gt := Gr_bd (gr := grV s0) (C := nC s0) (o := o.toNatClampNeg) bC (grV_b hJ0) (cX_del hR v6)
        have gp := pc_le (gdel R v6)
        have gt2 : GTv s0 o.toNatClampNeg (gdel R v6) = 65535 ∨ (0 ≤ GTv s0 o.toNatClampNeg (gdel R v6) ∧ GTv s0 o.toNatClampNeg (gdel R v6) ≤ 400) := by
          unfold GTv
          omega
        show (m12.1 72 46).toInt = _
        have gt3 := GTv_b hJ0 (o := o.toNatClampNeg) (cX_del hR v6)
        rw [t1, mnB_s ht, j4, ev, eB, hB', cb_add gb gt2]
        show cbv _ x3.toInt (grV s0 a.toNatClampNeg v6.toNatClampNeg + GTv s0 o.toNatClampNeg (gdel R v6)) = cbv B0 x3.toInt (min _ (grV s0 a.toNatClampNeg v6.toNatClampNeg + GTv s0 o.toNatClampNeg (gdel R (nI v6.toNatClampNeg))))
        rw [← a_nI h0]
        exact cb_min hx3 (hM0 _ (by omega)) (by omega)
theorem v_cR (s0 : sm_S) (hJ0 : zI s0) (k : Nat) (rec : Int32 → Int32 → Int32 → sm_S → Option sm_S) (hr1 : cpl k rec) (hr2 : cpv s0 k rec) : cpv s0 (k + 1) (fX12_couplesR rec) := by
  intro x1 x2 x3 m hX h2 hk h42 h3 h36 hI hF
  have hfu := fuE
  have l0 := L0
  have t2 := a_tn h2.1
  have hkk : ((k + 1 : Nat) : Int) = (k : Int) + 1 := by omega
  have c1 : 0 ≤ (m.1 72 42).toInt ∧ (m.1 72 42).toInt ≤ 10 := hI.1 72 42
  obtain ⟨eH, eC, bH, bC⟩ := t_n hJ0
  have i1 : zI (sm_w1 (sm_w1 m 72 46 x3) 72 45 (m.1 72 42)) := zI.w (zI.w hI rfl (rg _)) rfl (show 0 ≤ (m.1 72 42).toInt ∧ (m.1 72 42).toInt ≤ 10 by omega)
  have f1 : Fr wX12_couples m (sm_w1 (sm_w1 m 72 46 x3) 72 45 (m.1 72 42)) := Fr.w (Fr.w Fr.refl rfl) rfl
  obtain ⟨w, ew, -⟩ := zX12_couples_66 m rec sm_fu (0 : Int32) _ (by omega) i1 f1 rfl
  have hw : (w.1 72 46).toInt = x3.toInt := congrArg Int32.toInt (v_66 rec _ _ _ _ ew)
  unfold fX12_couplesR
  refine s_eq (fun h1 => ?_) (fun h1 => ?_)
  · obtain rfl : x1 = 0 := eqI.mpr h1
    have e0 : GTv s0 x2.toNatClampNeg 0 = if x2.toNatClampNeg = 0 then 0 else 65535 := Gr_0
    refine s_eq (fun g2 => ?_) (fun g2 => s_ret ?_)
    · rw [e0, if_pos (show x2.toNatClampNeg = 0 by omega)]
      have take : ∀ B : Int, B < 0 ∨ x3.toInt ≤ B → Sf (fun r => (r.1 72 46).toInt = cbv B x3.toInt 0) (fX12_couples_66 rec sm_fu (0 : Int32) (sm_w1 (sm_w1 m 72 46 x3) 72 45 (m.1 72 42))) := fun B hB => by
        refine ⟨w, ew, ?_⟩
        rcases Int.lt_or_le B 0 with c | c
        · rw [hw, cb_b (by omega) c]; omega
        · rw [hw, cb_c (by omega) c]; omega
      refine s_lt (fun g3 => take _ (Or.inl (by omega))) (fun g3 => ?_)
      refine s_lt (fun g4 => take _ (Or.inr (by omega))) (fun g4 => ?_)
      have stay : x3.toInt ≥ (m.1 72 46).toInt → (m.1 72 46).toInt = cbv (m.1 72 46).toInt x3.toInt 0 := fun z => by
        rw [cb_c (by omega) (by omega)]; omega
      refine s_eq (fun g5 => ?_) (fun g5 => s_ret (stay (by omega)))
      refine s_bd (zX12_isLessRow m hI) (fun r _ => ?_)
      exact s_eq (fun _ => s_ret (stay (by omega))) (fun _ => take _ (Or.inr (by omega)))
    · rw [e0, if_neg (show ¬ x2.toNatClampNeg = 0 by omega), cb_a (by omega)]
  · have hx : x1 ≠ 0 := fun z => h1 (congrArg Int32.toInt z)
    obtain ⟨la, lb, lc⟩ := lwB_lo (cX_ex hX hx)
    obtain ⟨a0, a1, a2⟩ := nI10 la
    refine s_bd (s_ntz m hX hx) (fun r hr => ?_)
    subst hr
    have hd := cX_pc la lb
    have e1 : ((nI (lwB (bt x1) 10)) + (1 : Int32)).toInt = (nI (lwB (bt x1) 10)).toInt + 1 := a_addl L1 (by omega) (by omega)
    have t0 := a_tn a0
    have t1 : ((nI (lwB (bt x1) 10)) + (1 : Int32)).toNatClampNeg = lwB (bt x1) 10 + 1 := by
      have := a_tn (x := (nI (lwB (bt x1) 10)) + (1 : Int32)) (by omega)
      omega
    have hnone : ∀ N : Nat, N ≤ lwB (bt x1) 10 + 1 → mnB (fun b => grV s0 (lwB (bt x1) 10) b + GTv s0 x2.toNatClampNeg (gdel (gdel x1 (nI (lwB (bt x1) 10))) (nI b))) (bt (gdel x1 (nI (lwB (bt x1) 10)))) N = 65535 := fun N hN => mnB_none (fun b hb => by
      rw [cX_bt la (by omega)]
      by_cases z : b = lwB (bt x1) 10
      · rw [decide_eq_true z, Bool.not_true, Bool.and_false]
      · rw [lc b (by omega), Bool.false_and])
    rw [GTv_s hJ0 hX hx]
    have v := v_118 s0 hJ0 k rec hr1 hr2 (nI (lwB (bt x1) 10)) (gdel x1 (nI (lwB (bt x1) 10))) x2 x3 (m.1 72 46).toInt (by omega) (cX_del hX _) h2 h3 (by omega) (by omega) sm_fu ((nI (lwB (bt x1) 10)) + (1 : Int32)) m (by omega) (by omega) (by omega) (by omega) hI hF (fun z => by rw [a2, t1, hnone _ (Nat.le_refl _), cb_a (Int.le_refl _)]) (fun z => by rw [a2, hnone _ (by omega), cb_a (Int.le_refl _)])
    rw [a2] at v
    exact v
theorem v_cN (s0 : sm_S) (hJ0 : zI s0) : ∀ n : Nat, cpv s0 n (fX12_couplesN n)
  | 0 => fun x1 x2 x3 m hX h2 hk h42 h3 h36 hI hF => by have hz : ((0 : Nat) : Int) = 0 := rfl; omega
  | n + 1 => v_cR s0 hJ0 n (fX12_couplesN n) (zX12_couplesN n) (v_cN s0 hJ0 n)
