/-! GATES: the class's table against the reference's -/
def TTq (s : sm_S) : Prop := (∀ x y, x < nC s → y < nC s → fcl s x y = gD s x y) ∧ (∀ X c : Int32, 0 ≤ X.toInt → gsub s X → gC s c → gT s X c) ∧ (∀ c : Int32, gC s c → gL s 0 c = 0)
theorem tgh {h : Nat} (hh : h < 14) : 0 ≤ (nI h).toInt ∧ (nI h).toInt = (h : Int) ∧ (nI h).toNatClampNeg = h := by
  have e : (nI h).toInt = (h : Int) := nI_toInt (by omega)
  have := a_tn (x := nI h) (by omega)
  exact ⟨by omega, e, by omega⟩
theorem gAB_D {s : sm_S} (hJ : zI s) (hC : zC s) (hT : TTq s) {X c : Int32} {h : Nat} (hc : gC s c) (hh : h < nH s) : gA s X c (nI h) = gD s c.toNatClampNeg (ta s h) + gW1 s h + gL s (gdel X (nI h)) (s.1 77 h) ∧ gB s X c (nI h) = gD s c.toNatClampNeg (tb s h) + gW2 s h + gL s (gdel X (nI h)) (s.1 76 h) := by
  obtain ⟨eH, eC, bH, bC⟩ := t_n hJ
  obtain ⟨n0, n1, n2⟩ := tgh (h := h) (by omega)
  obtain ⟨a1, b1, a2, b2, ab⟩ := t_ends hJ hC hh
  obtain ⟨c0, c1⟩ := hc
  have tc := a_tn c0
  obtain ⟨-, i1⟩ := i10 (a := c) (b := s.1 76 h) (by omega) (by omega)
  obtain ⟨-, i2⟩ := i10 (a := c) (b := s.1 77 h) (by omega) (by omega)
  have f1 := hT.1 c.toNatClampNeg (ta s h) (by omega) a2
  have f2 := hT.1 c.toNatClampNeg (tb s h) (by omega) b2
  unfold gA gB
  rw [n2, i1, i2, ← f1, ← f2]
  exact ⟨rfl, rfl⟩
theorem gL_b {s : sm_S} (hJ : zI s) (X c : Int32) : 0 ≤ gL s X c ∧ gL s X c ≤ 1000000 := hJ.1 98 _
theorem b_setb {W x : Int32} {g : Nat} (hg : g ≤ 14) (hW0 : 0 ≤ W.toInt) (hW : W.toNatClampNeg < 2 ^ g) (x0 : 0 ≤ x.toInt) (x1 : x.toNatClampNeg < g) : 0 ≤ (W ||| ((1 : Int32) <<< (x &&& 31))).toInt ∧ (W ||| ((1 : Int32) <<< (x &&& 31))).toNatClampNeg < 2 ^ g := by
  have tW := a_tn hW0
  have tx := a_tn x0
  have p14 : 2 ^ g ≤ 2 ^ 14 := Nat.pow_le_pow_right (by decide) hg
  have e14 : 2 ^ 14 = 16384 := by decide
  have s1 := a_shlE (x := x) x0 (by omega)
  have p0 := Nat.two_pow_pos x.toNatClampNeg
  have p2 : 2 ^ x.toNatClampNeg ≤ 2 ^ 13 := Nat.pow_le_pow_right (by decide) (by omega)
  have e13 : 2 ^ 13 = 8192 := by decide
  have o := a_or (x := W) (y := (1 : Int32) <<< (x &&& 31)) 14 (p := 16384) (by decide) (by decide) hW0 (by omega) (by omega) (by omega)
  have gp := g_pow (X := W ||| ((1 : Int32) <<< (x &&& 31))) (k := g) o.1 (fun i hi hb => by
    rw [b_set x0 (by omega) hi] at hb
    rcases Nat.lt_or_ge i g with q | q
    · exact q
    · rw [b_hi (k := g) hW0 (by omega) q, Bool.false_or] at hb
      have := of_decide_eq_true hb
      omega)
  have t3 := a_tn o.1
  exact ⟨o.1, by omega⟩
theorem RWs.step {s : sm_S} (hJ : zI s) (hC : zC s) {W X x : Int32} (hR : RWs s W X) (x0 : 0 ≤ x.toInt) (hj : x.toNatClampNeg < gN s (nH s)) (hW : bt W x.toNatClampNeg = false) : bt X (ghs s x.toNatClampNeg) = true ∧ RWs s (W ||| ((1 : Int32) <<< (x &&& 31))) (gdel X (nI (ghs s x.toNatClampNeg))) := by
  have := RWs.next hJ hC hR hj hW rfl
  rw [← a_nI x0] at this
  exact this
theorem INp.sA {s : sm_S} (hJ : zI s) {c d : Nat} {W x : Int32} (h : INp s c W d) (x0 : 0 ≤ x.toInt) (hj : x.toNatClampNeg < gN s (nH s)) (hW : bt W x.toNatClampNeg = false) (e : rtc s d = rtc s (ta s (ghs s x.toNatClampNeg))) : INp s c (W ||| ((1 : Int32) <<< (x &&& 31))) (tb s (ghs s x.toNatClampNeg)) := by
  have := INp.nextA hJ h hj hW e
  rw [← a_nI x0] at this
  exact this
theorem INp.sB {s : sm_S} (hJ : zI s) {c d : Nat} {W x : Int32} (h : INp s c W d) (x0 : 0 ≤ x.toInt) (hj : x.toNatClampNeg < gN s (nH s)) (hW : bt W x.toNatClampNeg = false) (e : rtc s d = rtc s (tb s (ghs s x.toNatClampNeg))) : INp s c (W ||| ((1 : Int32) <<< (x &&& 31))) (ta s (ghs s x.toNatClampNeg)) := by
  have := INp.nextB hJ h hj hW e
  rw [← a_nI x0] at this
  exact this
/-- an entry of the class's table -/
def ENt (s m : sm_S) (c0 : Nat) (W X : Int32) : Prop := ∀ o : Nat, o < nC s → INp s c0 W o → (ln2 m (plG s W o)).toInt = min 65535 (gL s X (nI o))
theorem s_mb {s m0 m : sm_S} (hP : PRq s m0 m) (hJ : zI s) (hC : zC s) (hK : (m.1 49 0).toInt = 16384) {c0 : Nat} {W c x f g w : Int32} {G : Int} (hW0 : 0 ≤ W.toInt) (hW : W.toNatClampNeg < 2 ^ gN s (nH s)) (hc : gC s c) (x0 : 0 ≤ x.toInt) (hj : x.toNatClampNeg < gN s (nH s)) (f0 : 0 ≤ f.toInt ∧ f.toNatClampNeg < nC s) (g0 : 0 ≤ g.toInt ∧ g.toNatClampNeg < nC s) (eo : fX2_otherEnd (nI (ghs s x.toNatClampNeg)) f m = some g) (em : fX2_minutesFrom (nI (ghs s x.toNatClampNeg)) f m = some w) (hw : 1 ≤ w.toInt ∧ w.toInt ≤ 29) (hG : 0 ≤ G) (hE : gD s c.toNatClampNeg f.toNatClampNeg < 65535 → (ln2 m (plG s (W ||| ((1 : Int32) <<< (x &&& 31))) g.toNatClampNeg)).toInt = min 65535 G) : Sf (fun r => r.toInt = min 65535 (gD s c.toNatClampNeg f.toNatClampNeg + w.toInt + G)) (fX1_minutesBy W c x f m) := by
  have l65535 := L65535
  obtain ⟨eH, eC, bH, bC⟩ := t_n hJ
  have hgc : gN s (nH s) ≤ nH s := cnt_le _ _
  obtain ⟨c1, c2⟩ := hc
  have tc := a_tn c1
  have tf := a_tn f0.1
  have tx := a_tn x0
  have hI := hP.2.1
  have db := gD_b hJ hC c.toNatClampNeg f.toNatClampNeg
  have hcell : (m.1 (39 + c.toNatClampNeg) f.toNatClampNeg).toInt = min 65535 (gD s c.toNatClampNeg f.toNatClampNeg) := hP.2.2.2.2.2.2.1 _ _ (by omega) f0.2
  have xc : 0 ≤ c.toInt ∧ c.toInt < ((10 : Nat) : Int) := by omega
  have xf : 0 ≤ f.toInt ∧ f.toInt < ((10 : Nat) : Int) := by omega
  unfold fX1_minutesBy
  refine s_ix xc (s_ix xf (s_lt (fun q => ?_) (fun q => s_ret ?_)))
  · have hd : gD s c.toNatClampNeg f.toNatClampNeg < 65535 := by omega
    obtain ⟨w0, w1⟩ := b_setb (g := gN s (nH s)) (by omega) hW0 hW x0 hj
    obtain ⟨y, ey, y1, y2, y3, y4⟩ := e_plG hP hJ hC w0 w1 g0.1 g0.2
    refine s_ix (by omega) ?_
    rw [hP.g35 hj, eo, Option.bind_some, ey, Option.bind_some, e_at2 hI y2 (by omega), Option.bind_some, y4]
    refine s_ix xc (s_ix xf ?_)
    rw [em, Option.bind_some]
    have lb := ln2_b m (plG s (W ||| ((1 : Int32) <<< (x &&& 31))) g.toNatClampNeg)
    have he := hE hd
    have s1 : ((m.1 (39 + c.toNatClampNeg) f.toNatClampNeg) + w).toInt = (m.1 (39 + c.toNatClampNeg) f.toNatClampNeg).toInt + w.toInt := a_add (by omega) (by omega)
    have s2 : (((m.1 (39 + c.toNatClampNeg) f.toNatClampNeg) + w) + ln2 m (plG s (W ||| ((1 : Int32) <<< (x &&& 31))) g.toNatClampNeg)).toInt = (m.1 (39 + c.toNatClampNeg) f.toNatClampNeg).toInt + w.toInt + (ln2 m (plG s (W ||| ((1 : Int32) <<< (x &&& 31))) g.toNatClampNeg)).toInt := by
      rw [a_add (by omega) (by omega), s1]
    have q3 := a_ilt (x := ((m.1 (39 + c.toNatClampNeg) f.toNatClampNeg) + w) + ln2 m (plG s (W ||| ((1 : Int32) <<< (x &&& 31))) g.toNatClampNeg)) (y := (65535 : Int32)) (a := ((m.1 (39 + c.toNatClampNeg) f.toNatClampNeg) + w) + ln2 m (plG s (W ||| ((1 : Int32) <<< (x &&& 31))) g.toNatClampNeg)) (b := (65535 : Int32))
    refine s_ret ?_
    omega
  · omega
theorem s_mbAB {s m0 m : sm_S} (hP : PRq s m0 m) (hJ : zI s) (hC : zC s) (hT : TTq s) (hK : (m.1 49 0).toInt = 16384) {c0 : Nat} {W X c x : Int32} (hW0 : 0 ≤ W.toInt) (hW : W.toNatClampNeg < 2 ^ gN s (nH s)) (hc : gC s c) (x0 : 0 ≤ x.toInt) (hj : x.toNatClampNeg < gN s (nH s)) (hb : bt W x.toNatClampNeg = false) (hIN : INp s c0 W c.toNatClampNeg) (hE : ENt s m c0 (W ||| ((1 : Int32) <<< (x &&& 31))) (gdel X (nI (ghs s x.toNatClampNeg)))) : Sf (fun r => r.toInt = min 65535 (gA s X c (nI (ghs s x.toNatClampNeg)))) (fX1_minutesBy W c x (s.1 76 (ghs s x.toNatClampNeg)) m) ∧ Sf (fun r => r.toInt = min 65535 (gB s X c (nI (ghs s x.toNatClampNeg)))) (fX1_minutesBy W c x (s.1 77 (ghs s x.toNatClampNeg)) m) := by
  obtain ⟨eH, eC, bH, bC⟩ := t_n hJ
  have hgc : gN s (nH s) ≤ nH s := cnt_le _ _
  obtain ⟨g1, g2, g3⟩ := gh_s hj
  obtain ⟨n0, n1, n2⟩ := tgh (h := ghs s x.toNatClampNeg) (by omega)
  obtain ⟨a1, b1, a2, b2, ab⟩ := t_ends hJ hC g1
  obtain ⟨dA, dB⟩ := gAB_D hJ hC hT (X := X) hc g1
  have e31 := hP.1.hedge
  obtain ⟨⟨wa, ewa, wa1⟩, ⟨wb, ewb, wb1⟩, eo1, eo2⟩ := e_mA hP.1 hJ hC (h := nI (ghs s x.toNatClampNeg)) n0 (by omega)
  rw [n2] at ewa ewb eo1 eo2 wa1 wb1
  obtain ⟨hc0, hc1⟩ := hc
  have tc := a_tn hc0
  have hle := zI.le hJ
  have pj := zI.pfj hJ (ghs s x.toNatClampNeg) (by omega)
  have b78 : (-1 : Int) ≤ (s.1 78 (ghs s x.toNatClampNeg)).toInt ∧ (s.1 78 (ghs s x.toNatClampNeg)).toInt ≤ 20 := hJ.1 78 _
  have b82 : (-1 : Int) ≤ (s.1 82 (ghs s x.toNatClampNeg)).toInt ∧ (s.1 82 (ghs s x.toNatClampNeg)).toInt ≤ 9 := hJ.1 82 _
  have u1 : gW1 s (ghs s x.toNatClampNeg) = (s.1 78 (ghs s x.toNatClampNeg)).toInt := rfl
  have u2 : gW2 s (ghs s x.toNatClampNeg) = (s.1 78 (ghs s x.toNatClampNeg)).toInt + (s.1 82 (ghs s x.toNatClampNeg)).toInt := rfl
  have ea : s.1 76 (ghs s x.toNatClampNeg) = nI (ta s (ghs s x.toNatClampNeg)) := a_nI (by omega)
  have eb : s.1 77 (ghs s x.toNatClampNeg) = nI (tb s (ghs s x.toNatClampNeg)) := a_nI (by omega)
  rw [dA, dB, ← wa1, ← wb1]
  constructor
  · refine s_mb hP hJ hC hK (c0 := c0) hW0 hW ⟨hc0, hc1⟩ x0 hj ⟨by omega, a2⟩ ⟨by omega, b2⟩ eo1 ewa (by omega) (gL_b hJ _ _).1 (fun hd => ?_)
    have := hE (tb s (ghs s x.toNatClampNeg)) b2 (INp.sA hJ hIN x0 hj hb ((rt_iff hJ hC (by omega) a2).mpr hd))
    rw [← eb] at this
    exact this
  · refine s_mb hP hJ hC hK (c0 := c0) hW0 hW ⟨hc0, hc1⟩ x0 hj ⟨by omega, b2⟩ ⟨by omega, a2⟩ eo2 ewb (by omega) (gL_b hJ _ _).1 (fun hd => ?_)
    have := hE (ta s (ghs s x.toNatClampNeg)) a2 (INp.sB hJ hIN x0 hj hb ((rt_iff hJ hC (by omega) b2).mpr hd))
    rw [← ea] at this
    exact this
theorem RWs_0 {s : sm_S} {W : Int32} (h : ∀ j, j < gN s (nH s) → bt W j = true) (hJ : zI s) (hC : zC s) : RWs s W 0 := by
  have l0 := L0
  refine ⟨by omega, fun i hi => ?_⟩
  rw [b_0]
  cases hg : gbv s i with
  | false => rfl
  | true =>
    rw [h _ (gN_lt hg (gbv_lt hJ hC hg))]; rfl
theorem v_bo {s m0 m : sm_S} (hP : PRq s m0 m) (hJ : zI s) (hC : zC s) (hT : TTq s) (hK : (m.1 49 0).toInt = 16384) {c0 : Nat} {W X c : Int32} (hW0 : 0 ≤ W.toInt) (hW : W.toNatClampNeg < 2 ^ gN s (nH s)) (hc : gC s c) (hR : RWs s W X) (hX : X.toInt ≠ 0) (hIN : INp s c0 W c.toNatClampNeg) (hE : ∀ x : Int32, 0 ≤ x.toInt → x.toNatClampNeg < gN s (nH s) → bt W x.toNatClampNeg = false → ENt s m c0 (W ||| ((1 : Int32) <<< (x &&& 31))) (gdel X (nI (ghs s x.toNatClampNeg)))) : ∀ (n : Nat) (v4 v5 : Int32), 0 ≤ v5.toInt → v5.toInt ≤ ((gN s (nH s) : Nat) : Int) → ((gN s (nH s) : Nat) : Int) - v5.toInt < (n : Int) → v4.toInt ≤ 65535 → min 65535 (gL s X c) ≤ v4.toInt → (∀ j : Nat, (j : Int) < v5.toInt → bt W j = false → v4.toInt ≤ min 65535 (gG s X c (nI (ghs s j)))) → Sf (fun r => r.toInt = min 65535 (gL s X c)) (fX1_bestOn_7 n W c v4 v5 m) := by
  obtain ⟨eH, eC, bH, bC⟩ := t_n hJ
  have hgc : gN s (nH s) ≤ nH s := cnt_le _ _
  have p34 := hP.2.2.2.1
  have hgT := hT.2.1 X c hR.1.1 hR.sub hc
  intro n
  induction n with
  | zero => intro v4 v5 h0 hl hn; have hz : ((0 : Nat) : Int) = 0 := rfl; omega
  | succ n ih =>
    intro v4 v5 h0 hl hn h65 hlo hup
    have hnn : ((n + 1 : Nat) : Int) = (n : Int) + 1 := by omega
    have t5 := a_tn h0
    unfold fX1_bestOn_7
    refine s_le (fun g => s_ret ?_) (fun g => ?_)
    · by_cases q : gL s X c < 65535
      · obtain ⟨h, hh, hb, e⟩ := hgT.2 hX (by omega)
        have hh0 : 0 ≤ h.toInt := hh.1
        have hh1 : h.toInt < (s.1 72 6).toInt := hh.2
        have th := a_tn hh0
        have hbb := hR.2 h.toNatClampNeg (by omega)
        rw [hb] at hbb
        obtain ⟨z1, z2⟩ := Bool.and_eq_true_iff.mp hbb.symm
        obtain ⟨z3, z4⟩ := gh_N (s := s) (h := h.toNatClampNeg) (by omega) z1
        have z5 : bt W (gN s h.toNatClampNeg) = false := by
          cases hq : bt W (gN s h.toNatClampNeg) with
          | false => rfl
          | true => rw [hq] at z2; cases z2
        have := hup (gN s h.toNatClampNeg) (by omega) z5
        rw [z4, ← a_nI hh0] at this
        omega
      · omega
    · have ev : (v5 + (1 : Int32)).toInt = v5.toInt + 1 := a_addl L1 (by omega) (by omega)
      have hj : v5.toNatClampNeg < gN s (nH s) := by omega
      have h00 := b_has0 (x := W) h0 (show v5.toInt < 32 by omega)
      refine s_if (fun q => ?_) (fun q => ?_)
      · have hb := h00.mp q
        obtain ⟨g1, g2, g3⟩ := gh_s hj
        obtain ⟨n0, n1, n2⟩ := tgh (h := ghs s v5.toNatClampNeg) (by omega)
        have e31 := hP.1.hedge
        obtain ⟨q1, q2, -⟩ := hP.1.row (x := nI (ghs s v5.toNatClampNeg)) n0 (by omega)
        have q1 : m.1 6 (nI (ghs s v5.toNatClampNeg)).toNatClampNeg = s.1 76 (ghs s v5.toNatClampNeg) := by rw [q1, n2]
        have q2 : m.1 7 (nI (ghs s v5.toNatClampNeg)).toNatClampNeg = s.1 77 (ghs s v5.toNatClampNeg) := by rw [q2, n2]
        obtain ⟨sA, sB⟩ := s_mbAB hP hJ hC hT hK (c0 := c0) (X := X) hW0 hW hc h0 hj hb hIN (hE v5 h0 hj hb)
        obtain ⟨x1, x2⟩ := RWs.step hJ hC hR h0 hj hb
        have hg1 := hgT.1 (nI (ghs s v5.toNatClampNeg)) ⟨n0, by omega⟩ (by rw [n2]; exact x1)
        have eG : gG s X c (nI (ghs s v5.toNatClampNeg)) = min (min 1000000 (gA s X c (nI (ghs s v5.toNatClampNeg)))) (min 1000000 (gB s X c (nI (ghs s v5.toNatClampNeg)))) := rfl
        refine s_ix (by omega) ?_
        rw [hP.g35 hj, q1, q2]
        refine s_ix (by omega) ?_
        refine s_bd sA (fun r4 h4 => ?_)
        refine s_ix (by omega) ?_
        refine s_bd sB (fun r7 h7 => ?_)
        have k1 := a_ilt (x := r4) (y := v4) (a := r4) (b := v4)
        generalize (if r4 < v4 then r4 else v4) = u at k1 ⊢
        have k2 := a_ilt (x := r7) (y := u) (a := r7) (b := u)
        generalize (if r7 < u then r7 else u) = z at k2 ⊢
        refine ih z (v5 + (1 : Int32)) (by omega) (by omega) (by omega) (by omega) (by omega) (fun j hj2 hbj => ?_)
        by_cases e : j = v5.toNatClampNeg
        · subst e; omega
        · have := hup j (by omega) hbj
          omega
      · refine ih v4 (v5 + (1 : Int32)) (by omega) (by omega) (by omega) h65 hlo (fun j hj2 hbj => ?_)
        by_cases e : j = v5.toNatClampNeg
        · subst e; exact absurd (h00.mpr hbj) q
        · exact hup j (by omega) hbj
/-- all numbers of gates -/
def ALv (s : sm_S) (A : Int32) : Prop := 0 ≤ A.toInt ∧ A.toInt + 1 = ((2 ^ gN s (nH s) : Nat) : Int) ∧ ∀ i : Nat, i < 32 → bt A i = decide (i < gN s (nH s))
theorem ALv.of {s m0 m : sm_S} (hP : PRq s m0 m) (hJ : zI s) : ALv s (((1 : Int32) <<< ((m.1 34 1) &&& 31)) - (1 : Int32)) := by
  obtain ⟨eH, eC, bH, bC⟩ := t_n hJ
  have hgc : gN s (nH s) ≤ nH s := cnt_le _ _
  have p34 := hP.2.2.2.1
  have e := all_e (c := m.1 34 1) (k := gN s (nH s)) (by omega) (by omega)
  obtain ⟨hp1, hp2⟩ := pw14 (k := gN s (nH s)) (by omega)
  refine ⟨by omega, by omega, fun i hi => ?_⟩
  rw [b_all (by omega) (by omega) hi]
  exact decide_eq_decide.mpr ⟨fun z => by omega, fun z => by omega⟩
/-- the table holds what it must for sets above W, and for W at corners below v -/
def ETb (s m : sm_S) (c0 : Nat) (w : Int) (v : Nat) : Prop := ∀ W X : Int32, 0 ≤ W.toInt → W.toNatClampNeg < 2 ^ gN s (nH s) → RWs s W X → ∀ o : Nat, o < nC s → INp s c0 W o → (w < W.toInt ∨ (w = W.toInt ∧ o < v)) → (ln2 m (plG s W o)).toInt = min 65535 (gL s X (nI o))
theorem v_f46 {s m0 M : sm_S} (hP : PRq s m0 M) (hJ : zI s) (hC : zC s) (hT : TTq s) (hK : (M.1 49 0).toInt = 16384) {c0 : Int32} {A : Int32} (hA : ALv s A) {Q : Int32 × sm_S → Prop} (k28 : Int32 → Int32 → Int32 → sm_S → Option (Int32 × sm_S)) (W here : Int32) (hW0 : 0 ≤ W.toInt) (hW : W.toNatClampNeg < 2 ^ gN s (nH s)) (hh : ∀ i : Nat, i < 32 → bt here i = PAb s c0.toNatClampNeg W i) (hk : ∀ m : sm_S, m.1 = M.1 → ETb s m c0.toNatClampNeg (W.toInt - 1) 0 → Sf Q (k28 c0 A (W - (1 : Int32)) m)) : ∀ (n : Nat) (v6 : Int32) (m : sm_S), 0 ≤ v6.toInt → v6.toInt ≤ (s.1 72 3).toInt → (s.1 72 3).toInt - v6.toInt < (n : Int) → m.1 = M.1 → ETb s m c0.toNatClampNeg W.toInt v6.toNatClampNeg → Sf Q (fX1_fewestMinutes_46 k28 n c0 A W here v6 m) := by
  have l0 := L0
  have hfu := fuE
  have l65535 := L65535
  have z0 : (0 : Int32).toNatClampNeg = 0 := by decide
  obtain ⟨eH, eC, bH, bC⟩ := t_n hJ
  have hgc : gN s (nH s) ≤ nH s := cnt_le _ _
  have tW := a_tn hW0
  intro n
  induction n with
  | zero => intro v6 m h0 hl hn; have hz : ((0 : Nat) : Int) = 0 := rfl; omega
  | succ n ih =>
    intro v6 m h0 hl hn hm hE
    have hnn : ((n + 1 : Nat) : Int) = (n : Int) + 1 := by omega
    have t6 := a_tn h0
    have hPm : PRq s m0 m := hP.same hm
    have hKm : (m.1 49 0).toInt = 16384 := by rw [hm]; exact hK
    have e3 : m.1 3 0 = s.1 72 3 := hPm.1.1.1
    unfold fX1_fewestMinutes_46
    rw [e3, a_m1]
    refine s_le (fun g => hk m hm (fun V X q1 q2 q3 o q4 q5 q6 => hE V X q1 q2 q3 o q4 q5 ?_)) (fun g => ?_)
    · rcases q6 with q6 | ⟨-, q6⟩
      · by_cases z : W.toInt = V.toInt
        · exact Or.inr ⟨z, by omega⟩
        · exact Or.inl (by omega)
      · exact absurd q6 (Nat.not_lt_zero _)
    · have ev : (v6 + (1 : Int32)).toInt = v6.toInt + 1 := a_addl L1 (by omega) (by omega)
      have hs6 : (v6 + (1 : Int32)).toNatClampNeg = v6.toNatClampNeg + 1 := by
        have := a_tn (x := v6 + (1 : Int32)) (by omega)
        omega
      have hv : v6.toNatClampNeg < nC s := by omega
      have hc6 : gC s v6 := ⟨h0, g⟩
      have hiff : m.1 36 v6.toNatClampNeg = here ↔ INp s c0.toNatClampNeg W v6.toNatClampNeg := by
        constructor
        · intro z i hi
          rw [← b36 hPm hJ hC hv hi, z, hh i hi]
        · intro z
          exact b_ext (fun i hi => by rw [b36 hPm hJ hC hv hi, hh i hi]; exact z i hi)
      refine s_ix (by omega) (s_if (fun q => ?_) (fun q => ?_))
      · have hIN := hiff.mp q
        obtain ⟨y, ey, y1, y2, y3, y4⟩ := e_plG hPm hJ hC hW0 hW h0 hv
        obtain ⟨X, hR⟩ := RWs.ex hJ hC W
        rw [ey, Option.bind_some]
        have hput : ∀ v : Int32, v.toInt = min 65535 (gL s X v6) → Sf Q ((fX3_put_i2 y v m).bind fun m17 => fX1_fewestMinutes_46 k28 n c0 A W here (v6 + (1 : Int32)) m17) := fun v hvv => by
          have lb := gL_b hJ X v6
          obtain ⟨m', em, hm1, -, hm2⟩ := e_put2 (x := y) (v := v) hPm.2.1 y2 (by omega) (by omega)
          rw [em, Option.bind_some]
          refine ih (v6 + (1 : Int32)) m' (by omega) (by omega) (by omega) (hm1.trans hm) (fun V Y q1 q2 q3 o q4 q5 q6 => ?_)
          rw [hm2, y4]
          rw [hs6] at q6
          by_cases e : plG s V o = plG s W v6.toNatClampNeg
          · rw [if_pos e]
            obtain ⟨e1, e2⟩ := plG_inj hJ hC q4 hv e
            have eVW : V = W := by rw [a_nI q1, a_nI hW0, e1]
            subst eVW
            have eo : o = v6.toNatClampNeg := rk_inj hJ hC q4 hv (INp.uni hJ hC q4 q5 hIN) e2
            subst eo
            rw [RWs.uni q3 hR, ← a_nI h0]
            exact hvv
          · rw [if_neg e]
            refine hE V Y q1 q2 q3 o q4 q5 ?_
            rcases q6 with q6 | ⟨q6, q7⟩
            · exact Or.inl q6
            · refine Or.inr ⟨q6, ?_⟩
              have : o ≠ v6.toNatClampNeg := fun z => e (by
                have : V = W := eqI.mpr q6.symm
                rw [this, z])
              omega
        refine s_eq (fun g2 => ?_) (fun g2 => ?_)
        · have eWA : W = A := eqI.mpr g2
          have hX0 : X = 0 := RWs.uni hR (RWs_0 (fun j hj => by rw [eWA, hA.2.2 j (by omega)]; exact decide_eq_true hj) hJ hC)
          refine hput (0 : Int32) ?_
          rw [hX0, hT.2.2 v6 hc6, l0]; decide
        · have hXn : X.toInt ≠ 0 := fun z => g2 (congrArg Int32.toInt (b_ext (fun i hi => by
            rw [hA.2.2 i hi]
            by_cases q : i < gN s (nH s)
            · rw [decide_eq_true q]
              cases hb : bt W i with
              | true => rfl
              | false =>
                obtain ⟨g1, gb, gn⟩ := gh_s q
                have h1 := hR.2 (ghs s i) (by omega)
                have hX0 : X = 0 := eqI.mpr (by rw [z]; exact l0.symm)
                rw [hX0, b_0, gb, gn, hb] at h1
                cases h1
            · rw [decide_eq_false q]
              exact b_hi (k := gN s (nH s)) hW0 (by omega) (by omega))))
          unfold fX1_bestOn
          refine s_bd (v_bo hPm hJ hC hT hKm (c0 := c0.toNatClampNeg) hW0 hW hc6 hR hXn hIN (fun x x0 xj xb o q4 q5 => ?_) sm_fu (65535 : Int32) (0 : Int32) (by omega) (by omega) (by omega) (by omega) (by omega) (fun j hj => by omega)) (fun r15 h15 => hput r15 h15)
          obtain ⟨w0, w1⟩ := b_setb (g := gN s (nH s)) (by omega) hW0 hW x0 xj
          refine hE _ _ w0 w1 (RWs.step hJ hC hR x0 xj xb).2 o q4 q5 (Or.inl ?_)
          -- a gate more makes a greater number
          have hne : (W ||| ((1 : Int32) <<< (x &&& 31))) ≠ W := fun z => by
            have tx := a_tn x0
            have := b_set (W := W) (j := x) x0 (by omega) (i := x.toNatClampNeg) (by omega)
            rw [z, xb, decide_eq_true (p := x.toNatClampNeg = x.toNatClampNeg) rfl] at this
            cases this
          have hand : (W ||| ((1 : Int32) <<< (x &&& 31))) &&& W = W := b_ext (fun i hi => by
            rw [b_and, b_or]
            cases bt W i <;> cases bt ((1 : Int32) <<< (x &&& 31)) i <;> rfl)
          have hle := (a_andl (x := W ||| ((1 : Int32) <<< (x &&& 31))) (y := W) w0).2
          rw [hand] at hle
          have : (W ||| ((1 : Int32) <<< (x &&& 31))).toInt ≠ W.toInt := fun z => hne (eqI.mpr z)
          omega
      · refine ih (v6 + (1 : Int32)) m (by omega) (by omega) (by omega) hm (fun V Y q1 q2 q3 o q4 q5 q6 => hE V Y q1 q2 q3 o q4 q5 ?_)
        rw [hs6] at q6
        rcases q6 with q6 | ⟨q6, q7⟩
        · exact Or.inl q6
        · refine Or.inr ⟨q6, ?_⟩
          have : o ≠ v6.toNatClampNeg := fun z => q (hiff.mpr (by
            have eV : V = W := eqI.mpr q6.symm
            subst eV; subst z; exact q5))
          omega
theorem v_f28 {s m0 M : sm_S} (hP : PRq s m0 M) (hJ : zI s) (hC : zC s) (hT : TTq s) (hK : (M.1 49 0).toInt = 16384) {c0 : Int32} (hc0 : gC s c0) {A : Int32} (hA : ALv s A) : ∀ (n : Nat) (v4 : Int32) (m : sm_S), -1 ≤ v4.toInt → v4.toInt ≤ A.toInt → v4.toInt + 1 < (n : Int) → m.1 = M.1 → ETb s m c0.toNatClampNeg v4.toInt 0 → Sf (fun r => r.2.1 = M.1 ∧ ((r.1.toInt = -1 ∧ 65535 ≤ gL s (s.1 72 14) c0) ∨ (r.1.toInt = gL s (s.1 72 14) c0 ∧ gL s (s.1 72 14) c0 < 65535))) (fX1_fewestMinutes_28 n c0 A v4 m) := by
  have l0 := L0
  have hfu := fuE
  have ln1 := Ln1
  have l65535 := L65535
  have z0 : (0 : Int32).toNatClampNeg = 0 := by decide
  obtain ⟨eH, eC, bH, bC⟩ := t_n hJ
  have hgc : gN s (nH s) ≤ nH s := cnt_le _ _
  obtain ⟨c1, c2⟩ := hc0
  have tc := a_tn c1
  have hA0 := hA.1
  have hA1 := hA.2.1
  obtain ⟨hp1, hp2⟩ := pw14 (k := gN s (nH s)) (by omega)
  intro n
  induction n with
  | zero => intro v4 m h0 hl hn; have hz : ((0 : Nat) : Int) = 0 := rfl; omega
  | succ n ih =>
    intro v4 m h0 hl hn hm hE
    have hnn : ((n + 1 : Nat) : Int) = (n : Int) + 1 := by omega
    have hPm : PRq s m0 m := hP.same hm
    have hKm : (m.1 49 0).toInt = 16384 := by rw [hm]; exact hK
    unfold fX1_fewestMinutes_28
    refine s_lt (fun g => ?_) (fun g => ?_)
    · obtain ⟨y, ey, y1, y2, y3, y4⟩ := e_plG hPm hJ hC (W := (0 : Int32)) (by omega) (by rw [z0]; exact hp1) c1 (by omega)
      rw [ey, Option.bind_some, e_at2 hPm.2.1 y2 (by omega), Option.bind_some, y4]
      have hR0 : RWs s 0 (s.1 72 14) := by
        have c14 : 0 ≤ (s.1 72 14).toInt ∧ (s.1 72 14).toInt ≤ 16383 := hJ.1 72 14
        refine ⟨c14, fun i hi => ?_⟩
        rw [b_0]
        show bt (s.1 72 14) i = (bt (s.1 72 14) i && !false)
        rw [Bool.not_false, Bool.and_true]
      have e := hE 0 (s.1 72 14) (by omega) (by rw [z0]; exact hp1) hR0 c0.toNatClampNeg (by omega) (INp.self _) (Or.inl (by omega))
      rw [← a_nI c1] at e
      have lb := gL_b hJ (s.1 72 14) c0
      refine s_le (fun g2 => s_ret ⟨hm, Or.inl ⟨ln1, by omega⟩⟩) (fun g2 => s_ret ⟨hm, Or.inr ⟨?_, by omega⟩⟩)
      show (ln2 m (plG s 0 c0.toNatClampNeg)).toInt = _
      omega
    · have hW : v4.toNatClampNeg < 2 ^ gN s (nH s) := by
        have := a_tn (x := v4) (by omega)
        have := hA.2.1
        omega
      have e1 : (v4 - (1 : Int32)).toInt = v4.toInt - 1 := a_subl L1 (by omega) (by omega)
      refine s_bd (s_pa hPm hJ hC c1 (by omega) v4) (fun r10 h10 => ?_)
      refine v_f46 hP hJ hC hT hK hA (fX1_fewestMinutes_28 n) v4 r10 (by omega) hW h10 (fun m' hm' hE' => ih (v4 - (1 : Int32)) m' (by omega) (by omega) (by omega) hm' (by rw [e1]; exact hE')) sm_fu (0 : Int32) m (by omega) (by omega) (by omega) hm ?_
      rw [z0]; exact hE
/-! what can't be done is told by both -/
theorem g_fin {s : sm_S} (hJ : zI s) (hC : zC s) (hT : TTq s) {c0 : Nat} {A : Int32} (hA : ALv s A) : ∀ (k : Nat) (W X c : Int32), RWs s W X → p14 X ≤ k → gC s c → INp s c0 W c.toNatClampNeg → gL s X c < 1000000 → gL s X c ≤ 319 * ((p14 X : Nat) : Int) ∧ ∃ d, d < nC s ∧ INp s c0 A d := by
  have l0 := L0
  obtain ⟨eH, eC, bH, bC⟩ := t_n hJ
  have hgc : gN s (nH s) ≤ nH s := cnt_le _ _
  have base : ∀ (W c : Int32), RWs s W 0 → gC s c → INp s c0 W c.toNatClampNeg → ∃ d, d < nC s ∧ INp s c0 A d := fun W c hR hc hIN => by
    have tc := a_tn hc.1
    have := hc.2
    refine ⟨c.toNatClampNeg, by omega, hIN.cg (fun j hj => ?_)⟩
    obtain ⟨g1, gb, gn⟩ := gh_s hj
    have h1 := hR.2 (ghs s j) (by omega)
    rw [b_0, gb, gn] at h1
    rw [hA.2.2 j (by omega), decide_eq_true hj]
    cases hb : bt W j with
    | true => rfl
    | false => rw [hb] at h1; cases h1
  intro k
  induction k with
  | zero =>
    intro W X c hR hk hc hIN hl
    have hX : X = 0 := p14_0 (fun i hi hb => by
      rw [hR.2 i hi] at hb
      have := gbv_lt hJ hC (Bool.and_eq_true_iff.mp hb).1
      omega) (by omega)
    subst hX
    have e := hT.2.2 c hc
    exact ⟨by omega, base W c hR hc hIN⟩
  | succ k ih =>
    intro W X c hR hk hc hIN hl
    by_cases hX : X = 0
    · subst hX
      have e := hT.2.2 c hc
      exact ⟨by omega, base W c hR hc hIN⟩
    · have hXn : X.toInt ≠ 0 := fun z => hX (eqI.mpr (by rw [z]; exact l0.symm))
      obtain ⟨h, hh, hb, e⟩ := (hT.2.1 X c hR.1.1 hR.sub hc).2 hXn hl
      have hh0 : 0 ≤ h.toInt := hh.1
      have hh1 : h.toInt < (s.1 72 6).toInt := hh.2
      have th := a_tn hh0
      have tc := a_tn hc.1
      have hc2 : c.toInt < (s.1 72 3).toInt := hc.2
      have hbb := hR.2 h.toNatClampNeg (by omega)
      rw [hb] at hbb
      obtain ⟨z1, z2⟩ := Bool.and_eq_true_iff.mp hbb.symm
      obtain ⟨z3, z4⟩ := gh_N (s := s) (h := h.toNatClampNeg) (by omega) z1
      have z5 : bt W (gN s h.toNatClampNeg) = false := by
        cases hq : bt W (gN s h.toNatClampNeg) with
        | false => rfl
        | true => rw [hq] at z2; cases z2
      obtain ⟨-, hR'⟩ := RWs.next hJ hC hR z3 z5 z4.symm
      have hp : p14 (gdel X h) + 1 = p14 X := p14_del hh0 (by omega) hb
      obtain ⟨a1, b1, a2, b2, ab⟩ := t_ends hJ hC (h := h.toNatClampNeg) (by omega)
      obtain ⟨dA, dB⟩ := gAB_D hJ hC hT (X := X) (c := c) (h := h.toNatClampNeg) hc (by omega)
      obtain ⟨w1, w2⟩ : (1 ≤ gW1 s h.toNatClampNeg ∧ gW1 s h.toNatClampNeg ≤ 29) ∧ (1 ≤ gW2 s h.toNatClampNeg ∧ gW2 s h.toNatClampNeg ≤ 29) := by
        have hle := zI.le hJ
        have pj := zI.pfj hJ h.toNatClampNeg (by omega)
        have b78 : (-1 : Int) ≤ (s.1 78 h.toNatClampNeg).toInt ∧ (s.1 78 h.toNatClampNeg).toInt ≤ 20 := hJ.1 78 _
        have b82 : (-1 : Int) ≤ (s.1 82 h.toNatClampNeg).toInt ∧ (s.1 82 h.toNatClampNeg).toInt ≤ 9 := hJ.1 82 _
        show (1 ≤ (s.1 78 h.toNatClampNeg).toInt ∧ (s.1 78 h.toNatClampNeg).toInt ≤ 29) ∧ (1 ≤ (s.1 78 h.toNatClampNeg).toInt + (s.1 82 h.toNatClampNeg).toInt ∧ (s.1 78 h.toNatClampNeg).toInt + (s.1 82 h.toNatClampNeg).toInt ≤ 29)
        omega
      rw [← a_nI hh0] at dA dB hR'
      have eG : gG s X c h = min (min 1000000 (gA s X c h)) (min 1000000 (gB s X c h)) := rfl
      have d1 := gD_b hJ hC c.toNatClampNeg (ta s h.toNatClampNeg)
      have d2 := gD_b hJ hC c.toNatClampNeg (tb s h.toNatClampNeg)
      have l1 := gL_b hJ (gdel X h) (s.1 77 h.toNatClampNeg)
      have l2 := gL_b hJ (gdel X h) (s.1 76 h.toNatClampNeg)
      by_cases q : gL s X c = gA s X c h
      · have hd : gD s c.toNatClampNeg (ta s h.toNatClampNeg) < 1000000 := by omega
        have hd2 : gD s c.toNatClampNeg (ta s h.toNatClampNeg) ≤ 290 := dF_fin (gHY hJ hC) bC (by omega) hd
        have hIN' := INp.nextA hJ hIN z3 z5 (show rtc s c.toNatClampNeg = pAg s (gN s h.toNatClampNeg) by
          unfold pAg
          rw [z4]
          exact (rt_iff hJ hC (by omega) a2).mpr (by omega))
        rw [z4] at hIN'
        obtain ⟨i1, i2⟩ := ih _ (gdel X h) (s.1 77 h.toNatClampNeg) hR' (by omega) ⟨by omega, by omega⟩ hIN' (by omega)
        exact ⟨by omega, i2⟩
      · have q2 : gL s X c = gB s X c h := by omega
        have hd : gD s c.toNatClampNeg (tb s h.toNatClampNeg) < 1000000 := by omega
        have hd2 : gD s c.toNatClampNeg (tb s h.toNatClampNeg) ≤ 290 := dF_fin (gHY hJ hC) bC (by omega) hd
        have hIN' := INp.nextB hJ hIN z3 z5 (show rtc s c.toNatClampNeg = pBg s (gN s h.toNatClampNeg) by
          unfold pBg
          rw [z4]
          exact (rt_iff hJ hC (by omega) b2).mpr (by omega))
        rw [z4] at hIN'
        obtain ⟨i1, i2⟩ := ih _ (gdel X h) (s.1 76 h.toNatClampNeg) hR' (by omega) ⟨by omega, by omega⟩ hIN' (by omega)
        exact ⟨by omega, i2⟩
theorem bc_one : ∀ k, k < 10 → bcv ((1 : Int32) <<< ((nI k) &&& 31)) = 1 := by decide +kernel
/-- the class's fewest minutes -/
theorem s_few {s m0 M : sm_S} (hP : PRq s m0 M) (hJ : zI s) (hC : zC s) (hT : TTq s) (hK : (M.1 49 0).toInt = 16384) {c0 : Int32} (hc0 : gC s c0) : Sf (fun r => r.2.1 = M.1 ∧ ((r.1.toInt = -1 ∧ 1000000 ≤ gL s (s.1 72 14) c0) ∨ (r.1.toInt = gL s (s.1 72 14) c0 ∧ gL s (s.1 72 14) c0 < 65535))) (fX1_fewestMinutes c0 M) := by
  have l0 := L0
  have hfu := fuE
  have ln1 := Ln1
  have z0 : (0 : Int32).toNatClampNeg = 0 := by decide
  obtain ⟨eH, eC, bH, bC⟩ := t_n hJ
  have hgc : gN s (nH s) ≤ nH s := cnt_le _ _
  have c1 : 0 ≤ c0.toInt := hc0.1
  have c2 : c0.toInt < (s.1 72 3).toInt := hc0.2
  have tc := a_tn c1
  have hA := ALv.of hP hJ
  have hA0 := hA.1
  have hA1 := hA.2.1
  obtain ⟨hp1, hp2⟩ := pw14 (k := gN s (nH s)) (by omega)
  have c14 : 0 ≤ (s.1 72 14).toInt ∧ (s.1 72 14).toInt ≤ 16383 := hJ.1 72 14
  have hR0 : RWs s 0 (s.1 72 14) := by
    refine ⟨c14, fun i hi => ?_⟩
    rw [b_0]
    show bt (s.1 72 14) i = (bt (s.1 72 14) i && !false)
    rw [Bool.not_false, Bool.and_true]
  have hfin := g_fin hJ hC hT (c0 := c0.toNatClampNeg) hA 14 0 (s.1 72 14) c0 hR0 (cnt_le _ _) hc0 (INp.self _)
  have hp14 : p14 (s.1 72 14) ≤ 14 := cnt_le _ _
  have lb := gL_b hJ (s.1 72 14) c0
  unfold fX1_fewestMinutes
  refine s_bd (s_pa hP hJ hC c1 (by omega) _) (fun r2 h2 => ?_)
  rw [e_bc, Option.bind_some]
  refine s_if (fun q => ?_) (fun q => s_ret ⟨rfl, Or.inl ⟨ln1, ?_⟩⟩)
  · refine s_mono (v_f28 hP hJ hC hT hK hc0 hA sm_fu _ M (by omega) (Int.le_refl _) (by omega) rfl (fun W X q1 q2 q3 o q4 q5 q6 => ?_)) (fun r hr => ⟨hr.1, ?_⟩)
    · have tW := a_tn q1
      have := hA.2.1
      rcases q6 with q6 | ⟨-, q6⟩
      · omega
      · exact absurd q6 (Nat.not_lt_zero _)
    · rcases hr.2 with ⟨r1, r2⟩ | hr2
      · refine Or.inl ⟨r1, ?_⟩
        rcases Int.lt_or_le (gL s (s.1 72 14) c0) 1000000 with z | z
        · have := (hfin z).1
          omega
        · exact z
      · exact Or.inr hr2
  · rcases Int.lt_or_le (gL s (s.1 72 14) c0) 1000000 with z | z
    · obtain ⟨-, d, hd, hIN⟩ := hfin z
      have rd := (rt_lo hJ hC hd).1
      have : r2 = (1 : Int32) <<< ((nI (rtc s d)) &&& 31) := b_ext (fun i hi => by
        obtain ⟨n0, n1, n2⟩ := tgh (h := rtc s d) (by omega)
        rw [h2 i hi, b_pow (by omega) (by omega) hi, n2]
        exact (hIN i hi).symm)
      rw [this] at q
      exact absurd (bc_one (rtc s d) (by omega)) q
    · exact z
