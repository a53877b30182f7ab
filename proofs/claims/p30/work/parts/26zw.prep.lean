/-! THE CLASS'S prepare: gates, ways, parts -/
def gbv (s : sm_S) : Nat → Bool := fun i => bt (s.1 72 14) i
def gN (s : sm_S) (h : Nat) : Nat := cnt (gbv s) h
def rtc (s : sm_S) (c : Nat) : Nat := lwB (fun l => decide (gD s l c < 65535)) (nC s)
def rkc (s : sm_S) (c : Nat) : Nat := cnt (fun l => decide (gD s l c < 65535)) c
theorem cnt_up {p : Nat → Bool} {a : Nat} : ∀ {b : Nat}, a ≤ b → cnt p a ≤ cnt p b
  | 0, h => by rw [show a = 0 by omega]; exact Nat.le_refl _
  | b + 1, h => by
    by_cases q : a = b + 1
    · subst q; exact Nat.le_refl _
    · have := cnt_up (p := p) (a := a) (b := b) (by omega)
      have e : cnt p (b + 1) = cnt p b + (if p b = true then 1 else 0) := rfl
      rw [e]; omega
theorem cnt_t {p : Nat → Bool} {n : Nat} (h : p n = true) : cnt p (n + 1) = cnt p n + 1 := by
  show cnt p n + (if p n = true then 1 else 0) = _
  rw [if_pos h]
theorem cnt_f {p : Nat → Bool} {n : Nat} (h : p n = false) : cnt p (n + 1) = cnt p n := by
  show cnt p n + (if p n = true then 1 else 0) = _
  rw [if_neg (by rw [h]; decide)]; rfl
theorem cnt_nth {p : Nat → Bool} {j : Nat} : ∀ {n : Nat}, j < cnt p n → ∃ h, h < n ∧ p h = true ∧ cnt p h = j
  | 0, h => absurd h (Nat.not_lt_zero _)
  | n + 1, h => by
    by_cases q : j < cnt p n
    · obtain ⟨k, hk, h1, h2⟩ := cnt_nth q
      exact ⟨k, by omega, h1, h2⟩
    · cases hp : p n with
      | true =>
        rw [cnt_t hp] at h
        exact ⟨n, Nat.lt_succ_self n, hp, by omega⟩
      | false =>
        rw [cnt_f hp] at h
        exact absurd h q
def NBq (s m0 : sm_S) (c : Nat) (r : sm_S) : Prop := (∀ a b : Nat, r.1 (39 + a) b = m0.1 (39 + a) b) ∧ (∀ d : Nat, d ≠ c → r.1 36 d = m0.1 36 d ∧ r.1 37 d = m0.1 37 d) ∧ r.1 36 c = ((1 : Int32) <<< ((nI (rtc s c)) &&& 31)) ∧ (r.1 37 c).toInt = ((rkc s c : Nat) : Int)
theorem nb_20 {m0 s : sm_S} (hJ : zI s) (hV : INd (pcl m0) (gD s) 65535 (nC s)) {c : Int32} (hc0 : 0 ≤ c.toInt) (hc1 : c.toNatClampNeg < nC s) : ∀ (n k : Nat) (v2 : Int32) (m : sm_S), v2.toInt + 1 = (k : Int) → k ≤ c.toNatClampNeg → k < n → (∀ a b : Nat, m.1 (39 + a) b = m0.1 (39 + a) b) → (∀ d : Nat, d ≠ c.toNatClampNeg → m.1 36 d = m0.1 36 d ∧ m.1 37 d = m0.1 37 d) → (∃ r : Nat, k ≤ r ∧ r ≤ c.toNatClampNeg ∧ gD s r c.toNatClampNeg < 65535 ∧ (∀ l : Nat, k ≤ l → l < r → ¬ gD s l c.toNatClampNeg < 65535) ∧ m.1 36 c.toNatClampNeg = ((1 : Int32) <<< ((nI r) &&& 31))) → (m.1 37 c.toNatClampNeg).toInt + ((cnt (fun l => decide (gD s l c.toNatClampNeg < 65535)) k : Nat) : Int) = ((rkc s c.toNatClampNeg : Nat) : Int) → Sf (NBq s m0 c.toNatClampNeg) (fX1_numberInPart_20 n c v2 m) := by
  have l0 := L0
  have l65535 := L65535
  obtain ⟨eH, eC, bH, bC⟩ := t_n hJ
  have tc := a_tn hc0
  intro n
  induction n with
  | zero => intro k v2 m hk hkc hkn; exact absurd hkn (Nat.not_lt_zero _)
  | succ n ih =>
    intro k v2 m hk hkc hkn hP hO hR hN
    unfold fX1_numberInPart_20
    rw [a_m1]
    refine s_lt (fun g => s_ret ?_) (fun g => ?_)
    · have ek : k = 0 := by omega
      subst ek
      obtain ⟨r, -, r2, r3, r4, r5⟩ := hR
      refine ⟨hP, hO, ?_, ?_⟩
      · have : rtc s c.toNatClampNeg = r := lwB_eq (by omega) (decide_eq_true r3) (fun j hj => decide_eq_false (r4 j (Nat.zero_le _) hj))
        rw [this]; exact r5
      · have e : cnt (fun l => decide (gD s l c.toNatClampNeg < 65535)) 0 = 0 := rfl
        rw [e] at hN
        omega
    · obtain ⟨k', rfl⟩ : ∃ k', k = k' + 1 := ⟨k - 1, by omega⟩
      have et := a_tn (x := v2) (by omega)
      have ev : v2.toNatClampNeg = k' := by omega
      have hcell : (m.1 (39 + v2.toNatClampNeg) c.toNatClampNeg).toInt = min 65535 (gD s k' c.toNatClampNeg) := by
        rw [hP, ev]
        exact hV _ _ (by omega) hc1
      have em : (v2 - (1 : Int32)).toInt = v2.toInt - 1 := a_subl L1 (by omega) (by omega)
      obtain ⟨r, r1, r2, r3, r4, r5⟩ := hR
      refine s_ix (by omega) (s_ix (by omega) (s_le (fun g2 => ?_) (fun g2 => s_ix (by omega) (s_ix (by omega) (s_ix (by omega) ?_)))))
      · have hno : ¬ gD s k' c.toNatClampNeg < 65535 := by omega
        have e : cnt (fun l => decide (gD s l c.toNatClampNeg < 65535)) (k' + 1) = cnt (fun l => decide (gD s l c.toNatClampNeg < 65535)) k' := cnt_f (p := fun l => decide (gD s l c.toNatClampNeg < 65535)) (decide_eq_false hno)
        rw [e] at hN
        refine ih k' (v2 - (1 : Int32)) m (by omega) (by omega) (by omega) hP hO ⟨r, by omega, r2, r3, fun l hl hlr => ?_, r5⟩ hN
        by_cases q : l = k'
        · subst q; exact hno
        · exact r4 l (by omega) hlr
      · have hyes : gD s k' c.toNatClampNeg < 65535 := by omega
        have e : cnt (fun l => decide (gD s l c.toNatClampNeg < 65535)) (k' + 1) = cnt (fun l => decide (gD s l c.toNatClampNeg < 65535)) k' + 1 := cnt_t (p := fun l => decide (gD s l c.toNatClampNeg < 65535)) (decide_eq_true hyes)
        rw [e] at hN
        have rk14 : rkc s c.toNatClampNeg ≤ c.toNatClampNeg := cnt_le _ _
        have e37 : ((m.1 37 c.toNatClampNeg) + (1 : Int32)).toInt = (m.1 37 c.toNatClampNeg).toInt + 1 := a_addl L1 (by have := rg (m.1 37 c.toNatClampNeg); omega) (by omega)
        refine ih k' (v2 - (1 : Int32)) _ (by omega) (by omega) (by omega) (fun a b => ?_) (fun d hd => ?_) ⟨k', Nat.le_refl _, by omega, hyes, fun l hl hlr => by omega, ?_⟩ ?_
        · rw [r_cell (by omega), r_cell (by omega)]; exact hP a b
        · refine ⟨?_, ?_⟩
          · rw [r_cell (by decide), r_place hd]; exact (hO d hd).1
          · rw [r_place hd, r_cell (by decide)]; exact (hO d hd).2
        · rw [r_cell (by decide), r_hit, ← ev, ← a_nI (by omega)]
        · rw [r_hit, e37]; omega
theorem s_nbp {m s : sm_S} (hJ : zI s) (hC : zC s) (hV : INd (pcl m) (gD s) 65535 (nC s)) {c : Int32} (hc0 : 0 ≤ c.toInt) (hc1 : c.toNatClampNeg < nC s) : Sf (NBq s m c.toNatClampNeg) (fX1_numberInPart c m) := by
  have l0 := L0
  have hfu := fuE
  obtain ⟨eH, eC, bH, bC⟩ := t_n hJ
  have tc := a_tn hc0
  have e1 : (c - (1 : Int32)).toInt = c.toInt - 1 := a_subl L1 (by omega) (by omega)
  have e0 := (dF_b (gHY hJ hC) c.toNatClampNeg c.toNatClampNeg).2.2 rfl
  have e0' : gD s c.toNatClampNeg c.toNatClampNeg = 0 := e0
  unfold fX1_numberInPart
  refine s_ix (by omega) (s_ix (by omega) ?_)
  refine nb_20 hJ hV hc0 hc1 sm_fu c.toNatClampNeg (c - (1 : Int32)) _ (by omega) (Nat.le_refl _) (by omega) (fun a b => ?_) (fun d hd => ?_) ⟨c.toNatClampNeg, Nat.le_refl _, Nat.le_refl _, by omega, fun l hl hlr => by omega, ?_⟩ ?_
  · rw [r_cell (by omega), r_cell (by omega)]
  · refine ⟨?_, ?_⟩
    · rw [r_cell (by decide), r_place hd]
    · rw [r_place hd, r_cell (by decide)]
  · rw [r_cell (by decide), r_hit, ← a_nI hc0]
  · rw [r_hit, l0]
    show (0 : Int) + ((rkc s c.toNatClampNeg : Nat) : Int) = _
    omega
def P73 (s m0 r : sm_S) : Prop := zI r ∧ Fr wX1_numberInPart m0 r ∧ (∀ a b : Nat, r.1 (39 + a) b = m0.1 (39 + a) b) ∧ ∀ c : Nat, c < nC s → r.1 36 c = ((1 : Int32) <<< ((nI (rtc s c)) &&& 31)) ∧ (r.1 37 c).toInt = ((rkc s c : Nat) : Int)
theorem s_73 {m0 s : sm_S} (hL : XL m0 s) (hJ : zI s) (hC : zC s) (hV : INd (pcl m0) (gD s) 65535 (nC s)) : ∀ (n : Nat) (v2 : Int32) (m : sm_S), 0 ≤ v2.toInt → v2.toInt ≤ (s.1 72 3).toInt → (s.1 72 3).toInt - v2.toInt < (n : Int) → zI m → Fr wX1_numberInPart m0 m → (∀ a b : Nat, m.1 (39 + a) b = m0.1 (39 + a) b) → (∀ c : Nat, (c : Int) < v2.toInt → m.1 36 c = ((1 : Int32) <<< ((nI (rtc s c)) &&& 31)) ∧ (m.1 37 c).toInt = ((rkc s c : Nat) : Int)) → Sf (P73 s m0) (fX1_prepare_73 n v2 m) := by
  obtain ⟨eH, eC, bH, bC⟩ := t_n hJ
  intro n
  induction n with
  | zero => intro v2 m h0 hl hn; have hz : ((0 : Nat) : Int) = 0 := rfl; omega
  | succ n ih =>
    intro v2 m h0 hl hn hI hF hP hD
    have hnn : ((n + 1 : Nat) : Int) = (n : Int) + 1 := by omega
    have t2 := a_tn h0
    have e3 : m.1 3 0 = s.1 72 3 := (hF 3 0 rfl).trans hL.1.1
    unfold fX1_prepare_73
    rw [e3]
    refine s_le (fun g => s_ret ⟨hI, hF, hP, fun c hc => hD c (by omega)⟩) (fun g => ?_)
    have ev : (v2 + (1 : Int32)).toInt = v2.toInt + 1 := a_addl L1 (by omega) (by omega)
    have hVm : INd (pcl m) (gD s) 65535 (nC s) := fun x y hx hy => by
      unfold pcl
      rw [hP]
      exact hV x y hx hy
    refine s_bd (s_both (zX1_numberInPart v2 m ⟨h0, by omega⟩ hI) (s_nbp hJ hC hVm h0 (by omega))) (fun m6 h6 => ?_)
    obtain ⟨⟨-, i6, F6⟩, n1, n2, n3, n4⟩ := h6
    refine ih (v2 + (1 : Int32)) m6 (by omega) (by omega) (by omega) i6 (Fr.trans hF F6 rfl) (fun a b => (n1 a b).trans (hP a b)) (fun c hc => ?_)
    by_cases q : c = v2.toNatClampNeg
    · subst q; exact ⟨n3, n4⟩
    · rw [(n2 c q).1, (n2 c q).2]
      exact hD c (by omega)
def PRq (s m0 r : sm_S) : Prop := XL r s ∧ zI r ∧ Fr wX1_prepare m0 r ∧ (r.1 34 1).toInt = ((gN s (nH s) : Nat) : Int) ∧ (r.1 34 2).toInt = 15 - ((gN s (nH s) : Nat) : Int) ∧ (∀ h : Nat, h < nH s → gbv s h = true → r.1 35 (gN s h) = nI h) ∧ INd (pcl r) (gD s) 65535 (nC s) ∧ ∀ c : Nat, c < nC s → r.1 36 c = ((1 : Int32) <<< ((nI (rtc s c)) &&& 31)) ∧ (r.1 37 c).toInt = ((rkc s c : Nat) : Int)
theorem s_pr7 {m0 s : sm_S} (hJ : zI s) (hC : zC s) : ∀ (n : Nat) (v2 : Int32) (m : sm_S), 0 ≤ v2.toInt → v2.toInt ≤ (s.1 72 6).toInt → (s.1 72 6).toInt - v2.toInt < (n : Int) → XL m s → zI m → Fr wX1_prepare m0 m → (m.1 34 1).toInt = ((gN s v2.toNatClampNeg : Nat) : Int) → (∀ h : Nat, h < v2.toNatClampNeg → gbv s h = true → m.1 35 (gN s h) = nI h) → Sf (PRq s m0) (fX1_prepare_7 n v2 m) := by
  have l0 := L0
  have hfu := fuE
  have l15 : (15 : Int32).toInt = 15 := by decide
  have z0 : (0 : Int32).toNatClampNeg = 0 := by decide
  obtain ⟨eH, eC, bH, bC⟩ := t_n hJ
  intro n
  induction n with
  | zero => intro v2 m h0 hl hn; have hz : ((0 : Nat) : Int) = 0 := rfl; omega
  | succ n ih =>
    intro v2 m h0 hl hn hL hI hF hG hD
    have hnn : ((n + 1 : Nat) : Int) = (n : Int) + 1 := by omega
    have t2 := a_tn h0
    have e31 : m.1 3 1 = s.1 72 6 := hL.1.2.1
    have gle : gN s v2.toNatClampNeg ≤ v2.toNatClampNeg := cnt_le _ _
    unfold fX1_prepare_7
    rw [e31]
    refine s_le (fun g => ?_) (fun g => ?_)
    · have e2 : v2.toNatClampNeg = nH s := by omega
      rw [e2] at hG hD gle
      have e15 : ((15 : Int32) - (m.1 34 1)).toInt = 15 - (m.1 34 1).toInt := by
        rw [a_sub (by omega) (by omega), l15]
      have f1 : Fr [(34, 2)] m (sm_w1 m 34 2 ((15 : Int32) - (m.1 34 1))) := Fr.w Fr.refl rfl
      have i1 : zI (sm_w1 m 34 2 ((15 : Int32) - (m.1 34 1))) := zI.w hI rfl (show 0 ≤ ((15 : Int32) - (m.1 34 1)).toInt ∧ ((15 : Int32) - (m.1 34 1)).toInt ≤ 15 by omega)
      have L1' : XL (sm_w1 m 34 2 ((15 : Int32) - (m.1 34 1))) s := hL.fr f1 (Fr.refl (W := [])) rfl
      have q342 : ((sm_w1 m 34 2 ((15 : Int32) - (m.1 34 1))).1 34 2).toInt = 15 - ((gN s (nH s) : Nat) : Int) := by
        rw [r_hit, e15, hG]
      generalize sm_w1 m 34 2 ((15 : Int32) - (m.1 34 1)) = m1 at f1 i1 L1' q342 ⊢
      obtain ⟨r, er, L4, I4, F4, V4⟩ := s_paths L1' i1 hJ hC
      obtain ⟨m2, em2, em4⟩ := tds er
      rw [em2, Option.bind_some, em4, Option.bind_some]
      refine s_mono (s_73 L4 hJ hC V4 sm_fu (0 : Int32) r (by omega) (by omega) (by omega) I4 Fr.refl (fun _ _ => rfl) (fun c hc => by omega)) (fun w hw => ?_)
      obtain ⟨w1, w2, w3, w4⟩ := hw
      refine ⟨L4.fr w2 (Fr.refl (W := [])) rfl, w1, Fr.trans (Fr.trans (Fr.trans hF f1 rfl) F4 rfl) w2 rfl, ?_, ?_, fun h hh hg => ?_, fun x y hx hy => ?_, w4⟩
      · rw [w2 34 1 rfl, F4 34 1 rfl, f1 34 1 rfl]; exact hG
      · rw [w2 34 2 rfl, F4 34 2 rfl]; exact q342
      · rw [w2 35 _ rfl, F4 35 _ rfl, f1 35 _ rfl]; exact hD h hh hg
      · unfold pcl
        rw [w3]
        exact V4 x y hx hy
    · have ev : (v2 + (1 : Int32)).toInt = v2.toInt + 1 := a_addl L1 (by omega) (by omega)
      have hs2 : (v2 + (1 : Int32)).toNatClampNeg = v2.toNatClampNeg + 1 := by
        have := a_tn (x := v2 + (1 : Int32)) (by omega)
        omega
      have h31 : v2.toInt < (m.1 3 1).toInt := by rw [e31]; exact g
      obtain ⟨-, -, -, -, -, -, -, q8⟩ := hL.row h0 h31
      refine s_ix (by omega) ?_
      rw [q8]
      refine s_if (fun g2 => ?_) (fun g2 => ?_)
      · have hg : gbv s v2.toNatClampNeg = false := by
          show bt (s.1 72 14) v2.toNatClampNeg = false
          cases hb : bt (s.1 72 14) v2.toNatClampNeg with
          | false => rfl
          | true => rw [hb, if_pos rfl] at g2; exact absurd g2 (by decide)
        have e : gN s (v2.toNatClampNeg + 1) = gN s v2.toNatClampNeg := cnt_f hg
        refine ih (v2 + (1 : Int32)) m (by omega) (by omega) (by omega) hL hI hF (by rw [hs2, e]; exact hG) (fun h hh hgh => ?_)
        rw [hs2] at hh
        by_cases q : h = v2.toNatClampNeg
        · subst q; rw [hg] at hgh; cases hgh
        · exact hD h (by omega) hgh
      · have hg : gbv s v2.toNatClampNeg = true := by
          show bt (s.1 72 14) v2.toNatClampNeg = true
          cases hb : bt (s.1 72 14) v2.toNatClampNeg with
          | true => rfl
          | false => rw [hb, if_neg (by decide)] at g2; exact absurd rfl g2
        have e : gN s (v2.toNatClampNeg + 1) = gN s v2.toNatClampNeg + 1 := cnt_t hg
        have t34 := a_tn (x := m.1 34 1) (by omega)
        have n34 : (m.1 34 1).toNatClampNeg = gN s v2.toNatClampNeg := by omega
        have e34 : ((m.1 34 1) + (1 : Int32)).toInt = (m.1 34 1).toInt + 1 := a_addl L1 (by omega) (by omega)
        refine s_ix (by omega) ?_
        have f1 : Fr [(34, 1), (35, 999)] m (sm_w1 (sm_w1 m 35 (m.1 34 1).toNatClampNeg v2) 34 1 ((m.1 34 1) + (1 : Int32))) := Fr.w (Fr.w Fr.refl rfl) rfl
        refine ih (v2 + (1 : Int32)) _ (by omega) (by omega) (by omega) (hL.fr f1 (Fr.refl (W := [])) rfl) (zI.w (zI.w hI rfl (show 0 ≤ v2.toInt ∧ v2.toInt ≤ 13 by omega)) rfl (show 0 ≤ ((m.1 34 1) + (1 : Int32)).toInt ∧ ((m.1 34 1) + (1 : Int32)).toInt ≤ 14 by omega)) (Fr.trans hF f1 rfl) ?_ (fun h hh hgh => ?_)
        · rw [hs2, e, r_hit, e34, hG]; omega
        · rw [r_cell (by decide), n34]
          rw [hs2] at hh
          by_cases q : h = v2.toNatClampNeg
          · subst q; rw [r_hit]; exact a_nI h0
          · have e1 : gN s (h + 1) = gN s h + 1 := cnt_t hgh
            have e2 : gN s (h + 1) ≤ gN s v2.toNatClampNeg := cnt_up (by omega)
            rw [r_place (by omega)]
            exact hD h (by omega) hgh
theorem s_prep {m s : sm_S} (hL : XL m s) (hI : zI m) (hJ : zI s) (hC : zC s) : Sf (PRq s m) (fX1_prepare m) := by
  have l0 := L0
  have hfu := fuE
  have z0 : (0 : Int32).toNatClampNeg = 0 := by decide
  obtain ⟨eH, eC, bH, bC⟩ := t_n hJ
  have f1 : Fr [(34, 1)] m (sm_w1 m 34 1 (0 : Int32)) := Fr.w Fr.refl rfl
  unfold fX1_prepare
  refine s_pr7 hJ hC sm_fu (0 : Int32) _ (by omega) (by omega) (by omega) (hL.fr f1 (Fr.refl (W := [])) rfl) (zI.w hI rfl (show 0 ≤ (0 : Int32).toInt ∧ (0 : Int32).toInt ≤ 14 by omega)) (Fr.sub f1 rfl) ?_ (fun h hh => ?_)
  · rw [r_hit, l0, z0]; rfl
  · rw [z0] at hh; exact absurd hh (Nat.not_lt_zero _)
