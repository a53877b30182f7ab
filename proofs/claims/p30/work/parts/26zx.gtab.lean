/-! GATES: sets of gates in both orders, parts, places -/
def ghs (s : sm_S) (j : Nat) : Nat := lwB (fun h => gbv s h && decide (gN s h = j)) (nH s)
theorem gN_lt {s : sm_S} {h k : Nat} (hg : gbv s h = true) (hk : h < k) : gN s h < gN s k := by
  have e1 : gN s (h + 1) = gN s h + 1 := cnt_t hg
  have e2 : gN s (h + 1) ≤ gN s k := cnt_up (by omega)
  omega
theorem gN_inj {s : sm_S} {h k : Nat} (hg : gbv s h = true) (kg : gbv s k = true) (e : gN s h = gN s k) : h = k := by
  rcases Nat.lt_trichotomy h k with q | q | q
  · have := gN_lt hg q; omega
  · exact q
  · have := gN_lt kg q; omega
theorem gh_s {s : sm_S} {j : Nat} (hj : j < gN s (nH s)) : ghs s j < nH s ∧ gbv s (ghs s j) = true ∧ gN s (ghs s j) = j := by
  obtain ⟨h, hh, h1, h2⟩ := cnt_nth hj
  obtain ⟨p1, p2, -⟩ := lwB_lo (f := fun h => gbv s h && decide (gN s h = j)) (n := nH s) ⟨h, hh, by
    show (gbv s h && decide (gN s h = j)) = true
    rw [h1, decide_eq_true (show gN s h = j from h2)]; rfl⟩
  obtain ⟨q1, q2⟩ := Bool.and_eq_true_iff.mp p2
  exact ⟨p1, q1, of_decide_eq_true q2⟩
theorem gh_N {s : sm_S} {h : Nat} (hh : h < nH s) (hg : gbv s h = true) : gN s h < gN s (nH s) ∧ ghs s (gN s h) = h := by
  have := gN_lt hg hh
  obtain ⟨p1, p2, p3⟩ := gh_s this
  exact ⟨this, gN_inj p2 hg p3⟩
theorem gbv_lt {s : sm_S} (hJ : zI s) (hC : zC s) {i : Nat} (h : gbv s i = true) : i < nH s := by
  obtain ⟨eH, eC, bH, bC⟩ := t_n hJ
  rcases Nat.lt_or_ge i 32 with q | q
  · have := hC.2 i q h
    omega
  · have h2 : bt (s.1 72 14) i = true := h
    rw [b_big q] at h2; cases h2
/-- X: the gates that are not in W (by their numbers) -/
def RWs (s : sm_S) (W X : Int32) : Prop := (0 ≤ X.toInt ∧ X.toInt ≤ 16383) ∧ ∀ i : Nat, i < 32 → bt X i = (gbv s i && !bt W (gN s i))
theorem RWs.ex {s : sm_S} (hJ : zI s) (hC : zC s) (W : Int32) : ∃ X, RWs s W X := by
  obtain ⟨eH, eC, bH, bC⟩ := t_n hJ
  obtain ⟨k, hk, hb⟩ := num_ex (fun i => gbv s i && !bt W (gN s i)) 14
  have e14 : 2 ^ 14 = 16384 := by decide
  have ek : (nI k).toInt = (k : Int) := nI_toInt (by omega)
  refine ⟨nI k, ⟨by omega, by omega⟩, fun i hi => ?_⟩
  rw [b_nat k i hi, hb i]
  by_cases q : i < 14
  · rw [decide_eq_true q, Bool.true_and]
  · rw [decide_eq_false q, Bool.false_and]
    cases hg : gbv s i with
    | false => rfl
    | true => have := gbv_lt hJ hC hg; omega
theorem RWs.uni {s : sm_S} {W X Y : Int32} (h : RWs s W X) (k : RWs s W Y) : X = Y := b_ext (fun i hi => (h.2 i hi).trans (k.2 i hi).symm)
theorem RWs.sub {s : sm_S} {W X : Int32} (h : RWs s W X) : gsub s X := fun i hi hb => by
  rw [h.2 i hi] at hb
  exact (Bool.and_eq_true_iff.mp hb).1
theorem b_set {W j : Int32} (h0 : 0 ≤ j.toInt) (h1 : j.toInt < 32) {i : Nat} (hi : i < 32) : bt (W ||| ((1 : Int32) <<< (j &&& 31))) i = (bt W i || decide (i = j.toNatClampNeg)) := by
  rw [b_or, b_pow h0 h1 hi]
theorem RWs.next {s : sm_S} (hJ : zI s) (hC : zC s) {W X : Int32} {j h : Nat} (hR : RWs s W X) (hj : j < gN s (nH s)) (hW : bt W j = false) (eh : h = ghs s j) : bt X h = true ∧ RWs s (W ||| ((1 : Int32) <<< ((nI j) &&& 31))) (gdel X (nI h)) := by
  obtain ⟨eH, eC, bH, bC⟩ := t_n hJ
  have hgc : gN s (nH s) ≤ nH s := cnt_le _ _
  obtain ⟨p1, p2, p3⟩ := gh_s hj
  rw [← eh] at p1 p2 p3
  have ej : (nI j).toInt = (j : Int) := nI_toInt (by omega)
  have ek : (nI h).toInt = (h : Int) := nI_toInt (by omega)
  have tj : (nI j).toNatClampNeg = j := by have := a_tn (x := nI j) (by omega); omega
  have tk : (nI h).toNatClampNeg = h := by have := a_tn (x := nI h) (by omega); omega
  refine ⟨?_, ⟨?_, fun i hi => ?_⟩⟩
  · rw [hR.2 h (by omega), p2, p3, hW]; rfl
  · have q := a_andl (x := X) (y := ((1 : Int32) <<< ((nI h) &&& 31)) ^^^ (-1 : Int32)) hR.1.1
    exact ⟨q.1, Int.le_trans q.2 hR.1.2⟩
  · have e : bt (gdel X (nI h)) i = (bt X i && !decide (i = (nI h).toNatClampNeg)) := b_del (by omega) (by omega) hi
    rw [e, hR.2 i hi, tk]
    cases hg : gbv s i with
    | false => rfl
    | true =>
      have hi2 := gbv_lt hJ hC hg
      have hlt : gN s i < 32 := by
        have := gN_lt hg hi2
        omega
      rw [b_set (by omega) (by omega) hlt, tj]
      have : decide (gN s i = j) = decide (i = h) := decide_eq_decide.mpr ⟨fun z => gN_inj hg p2 (by omega), fun z => by subst z; exact p3⟩
      rw [this]
      cases bt W (gN s i) <;> cases decide (i = h) <;> rfl
/-! parts -/
theorem gD_iff {s : sm_S} (hJ : zI s) (hC : zC s) {x y : Nat} (hx : x < nC s) : gD s x y < 65535 ↔ cn (ta s) (tb s) (nH s) (gS s) x y := dF_iff (gHY hJ hC) (t_n hJ).2.2.2 hx
theorem gD_0 {s : sm_S} (hJ : zI s) (hC : zC s) (x : Nat) : gD s x x = 0 := (dF_b (gHY hJ hC) x x).2.2 rfl
theorem gD_b {s : sm_S} (hJ : zI s) (hC : zC s) (x y : Nat) : 0 ≤ gD s x y ∧ gD s x y ≤ 1000000 := (dF_b (gHY hJ hC) x y).1
theorem rt_lo {s : sm_S} (hJ : zI s) (hC : zC s) {c : Nat} (hc : c < nC s) : rtc s c < nC s ∧ gD s (rtc s c) c < 65535 ∧ ∀ l, l < rtc s c → ¬ gD s l c < 65535 := by
  have e0 := gD_0 hJ hC c
  obtain ⟨p1, p2, p3⟩ := lwB_lo (f := fun l => decide (gD s l c < 65535)) (n := nC s) ⟨c, hc, decide_eq_true (by omega)⟩
  exact ⟨p1, of_decide_eq_true p2, fun l hl z => by
    have := p3 l hl
    rw [decide_eq_true z] at this
    cases this⟩
theorem rt_iff {s : sm_S} (hJ : zI s) (hC : zC s) {c d : Nat} (hc : c < nC s) (hd : d < nC s) : rtc s c = rtc s d ↔ gD s c d < 65535 := by
  obtain ⟨c1, c2, c3⟩ := rt_lo hJ hC hc
  obtain ⟨d1, d2, d3⟩ := rt_lo hJ hC hd
  constructor
  · intro e
    rw [← e] at d2
    exact (gD_iff hJ hC hc).mpr (((gD_iff hJ hC c1).mp c2).symm.trans ((gD_iff hJ hC c1).mp d2))
  · intro h
    have hcd := (gD_iff hJ hC hc).mp h
    have key : rtc s d = rtc s c := lwB_eq (f := fun l => decide (gD s l d < 65535)) c1 (decide_eq_true ((gD_iff hJ hC c1).mpr (((gD_iff hJ hC c1).mp c2).trans hcd))) (fun j hj => decide_eq_false (fun z => c3 j hj ((gD_iff hJ hC (by omega)).mpr (((gD_iff hJ hC (by omega)).mp z).trans hcd.symm))))
    exact key.symm
theorem rk_inj {s : sm_S} (hJ : zI s) (hC : zC s) {c d : Nat} (hc : c < nC s) (hd : d < nC s) (hr : rtc s c = rtc s d) (hk : rkc s c = rkc s d) : c = d := by
  have lt : ∀ x y : Nat, x < y → y < nC s → rtc s x = rtc s y → rkc s x < rkc s y := fun x y hxy hy hr => by
    have hx : x < nC s := by omega
    have hxy2 := (rt_iff hJ hC hx hy).mp hr
    have cxy := (gD_iff hJ hC hx).mp hxy2
    have e1 : cnt (fun l => decide (gD s l y < 65535)) (x + 1) = cnt (fun l => decide (gD s l y < 65535)) x + 1 := cnt_t (p := fun l => decide (gD s l y < 65535)) (decide_eq_true hxy2)
    have e2 : cnt (fun l => decide (gD s l y < 65535)) x = cnt (fun l => decide (gD s l x < 65535)) x := cnt_cong (fun l hl => decide_eq_decide.mpr ⟨fun z => (gD_iff hJ hC (by omega)).mpr (((gD_iff hJ hC (by omega)).mp z).trans cxy.symm), fun z => (gD_iff hJ hC (by omega)).mpr (((gD_iff hJ hC (by omega)).mp z).trans cxy)⟩)
    have e3 : cnt (fun l => decide (gD s l y < 65535)) (x + 1) ≤ cnt (fun l => decide (gD s l y < 65535)) y := cnt_up (by omega)
    unfold rkc
    omega
  rcases Nat.lt_trichotomy c d with q | q | q
  · have := lt c d q hd hr; omega
  · exact q
  · have := lt d c q hc hr.symm; omega
theorem cnt_not {p : Nat → Bool} : ∀ n : Nat, cnt p n + cnt (fun i => !p i) n = n
  | 0 => rfl
  | n + 1 => by
    have ih := cnt_not (p := p) n
    cases hp : p n with
    | true =>
      have e2 : cnt (fun i => !p i) (n + 1) = cnt (fun i => !p i) n := cnt_f (p := fun i => !p i) (by show (!p n) = false; rw [hp]; rfl)
      rw [cnt_t hp, e2]; omega
    | false =>
      have e2 : cnt (fun i => !p i) (n + 1) = cnt (fun i => !p i) n + 1 := cnt_t (p := fun i => !p i) (by show (!p n) = true; rw [hp]; rfl)
      rw [cnt_f hp, e2]; omega
theorem rk_lt {s : sm_S} (hJ : zI s) (hC : zC s) {c : Nat} (hc : c < nC s) : rkc s c + gN s (nH s) ≤ 14 := by
  obtain ⟨eH, eC, bH, bC⟩ := t_n hJ
  have h1 := dF_rank (gHY hJ hC) c
  have h2 : gN s (nH s) + cnt (gS s) (nH s) = nH s := cnt_not (p := gbv s) (nH s)
  have h3 : rkc s c ≤ cnt (fun y => !decide (y = c) && decide (gD s c y < 65535)) c := cnt_mono (fun l hl hp => by
    have hl2 := of_decide_eq_true hp
    have hlc := (gD_iff hJ hC (x := l) (by omega)).mp hl2
    show (!decide (l = c) && decide (gD s c l < 65535)) = true
    rw [decide_eq_false (show ¬ l = c by omega), decide_eq_true ((gD_iff hJ hC hc).mpr hlc.symm)]; rfl)
  have h4 : cnt (fun y => !decide (y = c) && decide (gD s c y < 65535)) c ≤ cnt (fun y => !decide (y = c) && decide (gD s c y < 65535)) (nC s) := cnt_up (by omega)
  have h5 : cnt (fun y => !decide (y = c) && decide (gD s c y < 65535)) (nC s) ≤ cnt (gS s) (nH s) := h1
  omega
/-! which part one is in behind some gates -/
def pAg (s : sm_S) (j : Nat) : Nat := rtc s (ta s (ghs s j))
def pBg (s : sm_S) (j : Nat) : Nat := rtc s (tb s (ghs s j))
def PAb (s : sm_S) (c : Nat) (W : Int32) (i : Nat) : Bool := decide (i = rtc s c) ^^ par (pAg s) (pBg s) (bt W) i (gN s (nH s))
def INp (s : sm_S) (c : Nat) (W : Int32) (d : Nat) : Prop := ∀ i : Nat, i < 32 → decide (i = rtc s d) = PAb s c W i
theorem PAb.next {s : sm_S} (hJ : zI s) {c j : Nat} {W : Int32} (hj : j < gN s (nH s)) (hW : bt W j = false) (i : Nat) : PAb s c (W ||| ((1 : Int32) <<< ((nI j) &&& 31))) i = (PAb s c W i ^^ (decide (pAg s j = i) ^^ decide (pBg s j = i))) := by
  obtain ⟨eH, eC, bH, bC⟩ := t_n hJ
  have hgc : gN s (nH s) ≤ nH s := cnt_le _ _
  have ej : (nI j).toInt = (j : Int) := nI_toInt (by omega)
  have tj : (nI j).toNatClampNeg = j := by have := a_tn (x := nI j) (by omega); omega
  have hb : ∀ k : Nat, k < 32 → bt (W ||| ((1 : Int32) <<< ((nI j) &&& 31))) k = (bt W k || decide (k = j)) := fun k hk => by
    rw [b_set (by omega) (by omega) hk, tj]
  have e := par_rm (a := pAg s) (b := pBg s) (S := bt (W ||| ((1 : Int32) <<< ((nI j) &&& 31)))) (h := j) (v := i) (n := gN s (nH s))
  rw [hb j (by omega), decide_eq_true hj, decide_eq_true (p := j = j) rfl, Bool.or_true, Bool.true_and, Bool.true_and] at e
  have e2 : par (pAg s) (pBg s) (rm (bt (W ||| ((1 : Int32) <<< ((nI j) &&& 31)))) j) i (gN s (nH s)) = par (pAg s) (pBg s) (bt W) i (gN s (nH s)) := par_cg (fun k hk => by
    show (bt (W ||| ((1 : Int32) <<< ((nI j) &&& 31))) k && !decide (k = j)) = bt W k
    rw [hb k (by omega)]
    by_cases q : k = j
    · subst q; rw [hW, decide_eq_true (p := k = k) rfl]; rfl
    · rw [decide_eq_false q]; cases bt W k <;> rfl)
  rw [e2] at e
  unfold PAb
  rw [e]
  cases decide (i = rtc s c) <;> cases par (pAg s) (pBg s) (bt (W ||| ((1 : Int32) <<< ((nI j) &&& 31)))) i (gN s (nH s)) <;> cases decide (pAg s j = i) <;> cases decide (pBg s j = i) <;> rfl
theorem INp.nextA {s : sm_S} (hJ : zI s) {c j d : Nat} {W : Int32} (h : INp s c W d) (hj : j < gN s (nH s)) (hW : bt W j = false) (e : rtc s d = pAg s j) : INp s c (W ||| ((1 : Int32) <<< ((nI j) &&& 31))) (tb s (ghs s j)) := by
  intro i hi
  rw [PAb.next hJ hj hW, ← h i hi, e]
  have e2 : rtc s (tb s (ghs s j)) = pBg s j := rfl
  rw [e2, show decide (i = pAg s j) = decide (pAg s j = i) from decide_eq_decide.mpr ⟨Eq.symm, Eq.symm⟩, show decide (i = pBg s j) = decide (pBg s j = i) from decide_eq_decide.mpr ⟨Eq.symm, Eq.symm⟩]
  cases decide (pAg s j = i) <;> cases decide (pBg s j = i) <;> rfl
theorem INp.nextB {s : sm_S} (hJ : zI s) {c j d : Nat} {W : Int32} (h : INp s c W d) (hj : j < gN s (nH s)) (hW : bt W j = false) (e : rtc s d = pBg s j) : INp s c (W ||| ((1 : Int32) <<< ((nI j) &&& 31))) (ta s (ghs s j)) := by
  intro i hi
  rw [PAb.next hJ hj hW, ← h i hi, e]
  have e2 : rtc s (ta s (ghs s j)) = pAg s j := rfl
  rw [e2, show decide (i = pAg s j) = decide (pAg s j = i) from decide_eq_decide.mpr ⟨Eq.symm, Eq.symm⟩, show decide (i = pBg s j) = decide (pBg s j = i) from decide_eq_decide.mpr ⟨Eq.symm, Eq.symm⟩]
  cases decide (pAg s j = i) <;> cases decide (pBg s j = i) <;> rfl
theorem INp.self {s : sm_S} (c : Nat) : INp s c 0 c := by
  intro i hi
  unfold PAb
  rw [par_f (S := bt 0) (fun h _ => b_0 h), Bool.xor_false]
theorem INp.uni {s : sm_S} (hJ : zI s) (hC : zC s) {c d e : Nat} {W : Int32} (hd : d < nC s) (h : INp s c W d) (k : INp s c W e) : rtc s d = rtc s e := by
  obtain ⟨eH, eC, bH, bC⟩ := t_n hJ
  have r := (rt_lo hJ hC hd).1
  have := (h (rtc s d) (by omega)).trans (k (rtc s d) (by omega)).symm
  rw [decide_eq_true (p := rtc s d = rtc s d) rfl] at this
  exact of_decide_eq_true this.symm
theorem INp.cg {s : sm_S} {c d : Nat} {W V : Int32} (h : INp s c W d) (e : ∀ k, k < gN s (nH s) → bt W k = bt V k) : INp s c V d := by
  intro i hi
  rw [h i hi]
  unfold PAb
  rw [par_cg e]
/-! places -/
def plG (s : sm_S) (W : Int32) (c : Nat) : Nat := W.toNatClampNeg * (15 - gN s (nH s)) + rkc s c
theorem pow_room : ∀ g, g < 15 → 2 ^ g * (15 - g) ≤ 16384 := by decide
theorem plG_lt {s : sm_S} (hJ : zI s) (hC : zC s) {W : Int32} {c : Nat} (hW : W.toNatClampNeg < 2 ^ gN s (nH s)) (hc : c < nC s) : plG s W c < 16384 ∧ W.toNatClampNeg * (15 - gN s (nH s)) < 16384 := by
  have r := rk_lt hJ hC hc
  have h1 : (W.toNatClampNeg + 1) * (15 - gN s (nH s)) ≤ 2 ^ gN s (nH s) * (15 - gN s (nH s)) := Nat.mul_le_mul_right _ hW
  have h2 := pow_room (gN s (nH s)) (by omega)
  rw [Nat.succ_mul] at h1
  unfold plG
  omega
theorem plG_inj {s : sm_S} (hJ : zI s) (hC : zC s) {W V : Int32} {c d : Nat} (hc : c < nC s) (hd : d < nC s) (e : plG s W c = plG s V d) : W.toNatClampNeg = V.toNatClampNeg ∧ rkc s c = rkc s d := by
  have r1 := rk_lt hJ hC hc
  have r2 := rk_lt hJ hC hd
  unfold plG at e
  rcases Nat.lt_trichotomy W.toNatClampNeg V.toNatClampNeg with q | q | q
  · have h1 : (W.toNatClampNeg + 1) * (15 - gN s (nH s)) ≤ V.toNatClampNeg * (15 - gN s (nH s)) := Nat.mul_le_mul_right _ q
    rw [Nat.succ_mul] at h1
    omega
  · rw [q] at e
    exact ⟨q, by omega⟩
  · have h1 : (V.toNatClampNeg + 1) * (15 - gN s (nH s)) ≤ W.toNatClampNeg * (15 - gN s (nH s)) := Nat.mul_le_mul_right _ q
    rw [Nat.succ_mul] at h1
    omega
theorem e_plG {s m0 m : sm_S} (hP : PRq s m0 m) (hJ : zI s) (hC : zC s) {W v : Int32} (hW0 : 0 ≤ W.toInt) (hW : W.toNatClampNeg < 2 ^ gN s (nH s)) (hv0 : 0 ≤ v.toInt) (hv : v.toNatClampNeg < nC s) : ∃ x, fX1_placeOf W v m = some x ∧ x.toInt = ((plG s W v.toNatClampNeg : Nat) : Int) ∧ 0 ≤ x.toInt ∧ x.toInt < 16384 ∧ x.toNatClampNeg = plG s W v.toNatClampNeg := by
  obtain ⟨eH, eC, bH, bC⟩ := t_n hJ
  obtain ⟨-, -, -, -, p2, -, -, p8⟩ := hP
  have r := rk_lt hJ hC hv
  have tW := a_tn hW0
  have tv := a_tn hv0
  obtain ⟨l1, l2⟩ := plG_lt hJ hC hW hv
  have e37 := (p8 v.toNatClampNeg hv).2
  have eS : (m.1 34 2).toInt = ((15 - gN s (nH s) : Nat) : Int) := by omega
  have eprod : W.toInt * (m.1 34 2).toInt = ((W.toNatClampNeg * (15 - gN s (nH s)) : Nat) : Int) := by
    rw [eS, ← tW]; exact (Int.natCast_mul _ _).symm
  have emul : (W * (m.1 34 2)).toInt = ((W.toNatClampNeg * (15 - gN s (nH s)) : Nat) : Int) := by
    rw [← eprod]
    exact a_mul rfl rfl (by rw [eprod]; omega) (by rw [eprod]; omega)
  have esum : ((W * (m.1 34 2)) + (m.1 37 v.toNatClampNeg)).toInt = ((plG s W v.toNatClampNeg : Nat) : Int) := by
    rw [a_add (by omega) (by omega), emul, e37]
    unfold plG
    omega
  have hx : 0 ≤ v.toInt ∧ v.toInt < ((10 : Nat) : Int) := by omega
  refine ⟨_, by unfold fX1_placeOf; rw [if_pos (ix_in hx)], esum, by omega, by omega, ?_⟩
  have := a_tn (x := (W * (m.1 34 2)) + (m.1 37 v.toNatClampNeg)) (by omega)
  omega
theorem PRq.same {s m0 m m' : sm_S} (h : PRq s m0 m) (e : m'.1 = m.1) : PRq s m0 m' := by
  obtain ⟨p1, p2, p3, p4, p5, p6, p7, p8⟩ := h
  refine ⟨p1.same0 e, p2.same0 e, fun a k hk => by rw [e]; exact p3 a k hk, by rw [e]; exact p4, by rw [e]; exact p5, by rw [e]; exact p6, fun x y hx hy => ?_, by rw [e]; exact p8⟩
  unfold pcl
  rw [e]
  exact p7 x y hx hy
theorem PRq.g35 {s m0 m : sm_S} (h : PRq s m0 m) {j : Nat} (hj : j < gN s (nH s)) : m.1 35 j = nI (ghs s j) := by
  obtain ⟨g1, g2, g3⟩ := gh_s hj
  have := h.2.2.2.2.2.1 _ g1 g2
  rw [g3] at this
  exact this
theorem v_pa {s m0 m : sm_S} (hP : PRq s m0 m) (hJ : zI s) (hC : zC s) {c0 : Nat} (W : Int32) : ∀ (n : Nat) (v4 v5 : Int32), 0 ≤ v5.toInt → v5.toInt ≤ ((gN s (nH s) : Nat) : Int) → ((gN s (nH s) : Nat) : Int) - v5.toInt < (n : Int) → (∀ i : Nat, i < 32 → bt v4 i = (decide (i = rtc s c0) ^^ par (pAg s) (pBg s) (bt W) i v5.toNatClampNeg)) → Sf (fun r => ∀ i : Nat, i < 32 → bt r i = PAb s c0 W i) (fX1_partAfter_11 n W v4 v5 m) := by
  obtain ⟨eH, eC, bH, bC⟩ := t_n hJ
  have hgc : gN s (nH s) ≤ nH s := cnt_le _ _
  have hP2 := hP
  obtain ⟨hL, hI, -, p4, -, -, -, p8⟩ := hP2
  intro n
  induction n with
  | zero => intro v4 v5 h0 hl hn; have hz : ((0 : Nat) : Int) = 0 := rfl; omega
  | succ n ih =>
    intro v4 v5 h0 hl hn hb
    have hnn : ((n + 1 : Nat) : Int) = (n : Int) + 1 := by omega
    have t5 := a_tn h0
    unfold fX1_partAfter_11
    refine s_le (fun g => s_ret (fun i hi => ?_)) (fun g => ?_)
    · rw [hb i hi, show v5.toNatClampNeg = gN s (nH s) by omega]; rfl
    · have ev : (v5 + (1 : Int32)).toInt = v5.toInt + 1 := a_addl L1 (by omega) (by omega)
      have hs5 : (v5 + (1 : Int32)).toNatClampNeg = v5.toNatClampNeg + 1 := by
        have := a_tn (x := v5 + (1 : Int32)) (by omega)
        omega
      have hj : v5.toNatClampNeg < gN s (nH s) := by omega
      have h00 := b_has0 (x := W) h0 (show v5.toInt < 32 by omega)
      refine s_if (fun q => ?_) (fun q => ?_)
      · refine ih v4 (v5 + (1 : Int32)) (by omega) (by omega) (by omega) (fun i hi => ?_)
        rw [hb i hi, hs5]
        show _ = (decide (i = rtc s c0) ^^ (par (pAg s) (pBg s) (bt W) i v5.toNatClampNeg ^^ (bt W v5.toNatClampNeg && _)))
        rw [h00.mp q, Bool.false_and, Bool.xor_false]
      · have hW : bt W v5.toNatClampNeg = true := by
          cases hb2 : bt W v5.toNatClampNeg with
          | true => rfl
          | false => exact absurd (h00.mpr hb2) q
        obtain ⟨g1, g2, g3⟩ := gh_s hj
        have e35 := hP.g35 hj
        obtain ⟨a1, b1, a2, b2, ab⟩ := t_ends hJ hC g1
        have n35 : (nI (ghs s v5.toNatClampNeg)).toInt = ((ghs s v5.toNatClampNeg : Nat) : Int) := nI_toInt (by omega)
        have t35 : (nI (ghs s v5.toNatClampNeg)).toNatClampNeg = ghs s v5.toNatClampNeg := by
          have := a_tn (x := nI (ghs s v5.toNatClampNeg)) (by omega)
          omega
        have e31 := hL.hedge
        obtain ⟨q1, q2, -⟩ := hL.row (x := nI (ghs s v5.toNatClampNeg)) (by omega) (by omega)
        have q1 : m.1 6 (nI (ghs s v5.toNatClampNeg)).toNatClampNeg = s.1 76 (ghs s v5.toNatClampNeg) := by rw [q1, t35]
        have q2 : m.1 7 (nI (ghs s v5.toNatClampNeg)).toNatClampNeg = s.1 77 (ghs s v5.toNatClampNeg) := by rw [q2, t35]
        have xa : 0 ≤ (s.1 76 (ghs s v5.toNatClampNeg)).toInt ∧ (s.1 76 (ghs s v5.toNatClampNeg)).toInt < ((10 : Nat) : Int) := by omega
        have xb : 0 ≤ (s.1 77 (ghs s v5.toNatClampNeg)).toInt ∧ (s.1 77 (ghs s v5.toNatClampNeg)).toInt < ((10 : Nat) : Int) := by omega
        refine s_ix (by omega) ?_
        rw [e35, q1, q2]
        refine s_ix (by omega) (s_ix xa (s_ix (by omega) (s_ix xb ?_)))
        refine ih _ (v5 + (1 : Int32)) (by omega) (by omega) (by omega) (fun i hi => ?_)
        have ra := (rt_lo hJ hC a2).1
        have rb := (rt_lo hJ hC b2).1
        have bb : ∀ k : Nat, k < nC s → ∀ i : Nat, i < 32 → bt (m.1 36 k) i = decide (rtc s k = i) := fun k hk i hi => by
          have rk := (rt_lo hJ hC hk).1
          have nk : (nI (rtc s k)).toInt = ((rtc s k : Nat) : Int) := nI_toInt (by omega)
          have tk : (nI (rtc s k)).toNatClampNeg = rtc s k := by
            have := a_tn (x := nI (rtc s k)) (by omega)
            omega
          rw [(p8 k hk).1, b_pow (by omega) (by omega) hi, tk]
          exact decide_eq_decide.mpr ⟨Eq.symm, Eq.symm⟩
        rw [b_xor, b_xor, hb i hi, hs5]
        have ba := bb (ta s (ghs s v5.toNatClampNeg)) a2 i hi
        have bb2 := bb (tb s (ghs s v5.toNatClampNeg)) b2 i hi
        have ea : (s.1 76 (ghs s v5.toNatClampNeg)).toNatClampNeg = ta s (ghs s v5.toNatClampNeg) := rfl
        have eb : (s.1 77 (ghs s v5.toNatClampNeg)).toNatClampNeg = tb s (ghs s v5.toNatClampNeg) := rfl
        rw [ea, eb, ba, bb2]
        show _ = (decide (i = rtc s c0) ^^ (par (pAg s) (pBg s) (bt W) i v5.toNatClampNeg ^^ (bt W v5.toNatClampNeg && (decide (pAg s v5.toNatClampNeg = i) ^^ decide (pBg s v5.toNatClampNeg = i)))))
        rw [hW, Bool.true_and]
        show ((_ ^^ _) ^^ (decide (pAg s v5.toNatClampNeg = i) ^^ decide (pBg s v5.toNatClampNeg = i))) = _
        cases decide (i = rtc s c0) <;> cases par (pAg s) (pBg s) (bt W) i v5.toNatClampNeg <;> cases decide (pAg s v5.toNatClampNeg = i) <;> cases decide (pBg s v5.toNatClampNeg = i) <;> rfl
theorem b36 {s m0 m : sm_S} (hP : PRq s m0 m) (hJ : zI s) (hC : zC s) {k : Nat} (hk : k < nC s) {i : Nat} (hi : i < 32) : bt (m.1 36 k) i = decide (i = rtc s k) := by
  obtain ⟨eH, eC, bH, bC⟩ := t_n hJ
  have rk := (rt_lo hJ hC hk).1
  have nk : (nI (rtc s k)).toInt = ((rtc s k : Nat) : Int) := nI_toInt (by omega)
  have tk : (nI (rtc s k)).toNatClampNeg = rtc s k := by
    have := a_tn (x := nI (rtc s k)) (by omega)
    omega
  rw [(hP.2.2.2.2.2.2.2 k hk).1, b_pow (by omega) (by omega) hi, tk]
theorem s_pa {s m0 m : sm_S} (hP : PRq s m0 m) (hJ : zI s) (hC : zC s) {c0 : Int32} (h0 : 0 ≤ c0.toInt) (hc : c0.toNatClampNeg < nC s) (W : Int32) : Sf (fun r => ∀ i : Nat, i < 32 → bt r i = PAb s c0.toNatClampNeg W i) (fX1_partAfter c0 W m) := by
  have l0 := L0
  have hfu := fuE
  have z0 : (0 : Int32).toNatClampNeg = 0 := by decide
  obtain ⟨eH, eC, bH, bC⟩ := t_n hJ
  have hgc : gN s (nH s) ≤ nH s := cnt_le _ _
  have tc := a_tn h0
  unfold fX1_partAfter
  refine s_ix (by omega) ?_
  refine v_pa hP hJ hC W sm_fu _ (0 : Int32) (by omega) (by omega) (by omega) (fun i hi => ?_)
  rw [b36 hP hJ hC hc hi, z0]
  show _ = (decide (i = rtc s c0.toNatClampNeg) ^^ false)
  rw [Bool.xor_false]
