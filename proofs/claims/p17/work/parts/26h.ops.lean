/-! CALLS THAT CHANGE WHAT IS RELATED: sign, end, set, sheet, heard, forget -/
/-- byte k of v, the highest first -/
def sBy (v : Int32) (k : Nat) : Int32 := (v >>> ((nI (24 - 8 * k)) &&& 31)) &&& (255 : Int32)
theorem sBy_b (v : Int32) (k : Nat) : 0 ≤ (sBy v k).toInt ∧ (sBy v k).toInt ≤ 255 := by
  have h := a_andr (x := (v >>> ((nI (24 - 8 * k)) &&& 31))) (y := (255 : Int32)) (by decide)
  rw [show (255 : Int32).toInt = 255 by decide] at h
  exact h
theorem charE0 : ∀ n, n < 256 → vp_nar .char (((nI n).toUInt32 % 65536).toInt32) = nI n := by decide +kernel
theorem charE {b : Int32} (h : 0 ≤ b.toInt ∧ b.toInt ≤ 255) : vp_nar .char ((b.toUInt32 % 65536).toInt32) = b := by
  have e := a_tn h.1
  have q := charE0 b.toNatClampNeg (by omega)
  rwa [← a_nI h.1] at q
theorem v_append : ∀ (d : Nat) (n : Nat) (v1 v2 : Int32) (m : sm_S), d ≤ 4 → v2.toInt = 8 * (d : Int) - 8 → d < n → 0 ≤ (m.1 1 1).toInt → (m.1 1 1).toInt + (d : Int) ≤ 80 → Sf (fun r => r.1 = 1 ∧ (r.2.1 1 1).toInt = (m.1 1 1).toInt + (d : Int) ∧ ∀ j : Nat, r.2.1 2 j = if (m.1 1 1).toNatClampNeg ≤ j ∧ j < (m.1 1 1).toNatClampNeg + d then sBy v1 (j - (m.1 1 1).toNatClampNeg + (4 - d)) else m.1 2 j) (fX8_append_14 n v1 v2 m) := by
  have l0 := L0
  intro d
  induction d with
  | zero =>
    intro n v1 v2 m _ h2 hn h0 hL
    obtain ⟨n', rfl⟩ : ∃ n', n = n' + 1 := ⟨n - 1, by omega⟩
    unfold fX8_append_14
    have hz : ((0 : Nat) : Int) = 0 := rfl
    refine s_lt (fun _ => s_ret ⟨rfl, (show (m.1 1 1).toInt = (m.1 1 1).toInt + ((0 : Nat) : Int) by rw [hz]; omega), fun j => ?_⟩) (fun h => by omega)
    rw [if_neg (by omega)]
  | succ d ih =>
    intro n v1 v2 m hd h2 hn h0 hL
    have hdd : ((d + 1 : Nat) : Int) = (d : Int) + 1 := by omega
    obtain ⟨n', rfl⟩ : ∃ n', n = n' + 1 := ⟨n - 1, by omega⟩
    have et := a_tn h0
    have e1 : ((m.1 1 1) + (1 : Int32)).toInt = (m.1 1 1).toInt + 1 := a_addl L1 (by omega) (by omega)
    have e2 : (v2 + (-8 : Int32)).toInt = v2.toInt - 8 := by rw [a_m8]; exact a_subl L8 (by omega) (by omega)
    have ev2 : v2 = nI (24 - 8 * (4 - (d + 1))) := Int32.toInt_inj.mp (by rw [nI_toInt (by omega)]; omega)
    unfold fX8_append_14
    refine s_lt (fun h => by omega) (fun _ => s_ix (by omega) ?_)
    have hb : (((v1 >>> (v2 &&& 31)) &&& (255 : Int32))) = sBy v1 (4 - (d + 1)) := by
      conv => lhs; rw [ev2]
      rfl
    rw [hb, charE (sBy_b v1 _)]
    have h11 : (sm_w1 (sm_w1 m 2 (m.1 1 1).toNatClampNeg (sBy v1 (4 - (d + 1)))) 1 1 ((m.1 1 1) + (1 : Int32))).1 1 1 = (m.1 1 1) + (1 : Int32) := r_hit
    have h11' : ((sm_w1 (sm_w1 m 2 (m.1 1 1).toNatClampNeg (sBy v1 (4 - (d + 1)))) 1 1 ((m.1 1 1) + (1 : Int32))).1 1 1).toInt = (m.1 1 1).toInt + 1 := by rw [h11]; exact e1
    have ht : ((m.1 1 1) + (1 : Int32)).toNatClampNeg = (m.1 1 1).toNatClampNeg + 1 := by
      have := a_tn (x := (m.1 1 1) + (1 : Int32)) (by omega)
      omega
    refine s_mono (ih n' v1 (v2 + (-8 : Int32)) _ (by omega) (by omega) (by omega) (by rw [h11']; omega) (by rw [h11']; omega)) ?_
    rintro r ⟨r1, r2, r3⟩
    refine ⟨r1, by rw [r2, h11']; omega, fun j => ?_⟩
    rw [r3 j, h11, ht]
    by_cases q : (m.1 1 1).toNatClampNeg + 1 ≤ j ∧ j < (m.1 1 1).toNatClampNeg + 1 + d
    · rw [if_pos q, if_pos (by omega)]
      exact congrArg (sBy v1) (by omega)
    · rw [if_neg q, r_cell (by decide)]
      by_cases q2 : j = (m.1 1 1).toNatClampNeg
      · subst q2
        rw [r_hit, if_pos (by omega)]
        exact congrArg (sBy v1) (by omega)
      · rw [r_place q2, if_neg (by omega)]
theorem v_sign12 : ∀ (d : Nat) (n : Nat) (v1 v2 : Int32) (m : sm_S), d ≤ 4 → v2.toInt = 4 - (d : Int) → d < n → 0 ≤ (m.1 72 21).toInt → (m.1 72 21).toInt ≤ 76 → Sf (fun r => r.1.toInt = (m.1 72 21).toInt + 4 ∧ (r.2.1 72 21).toInt = (m.1 72 21).toInt + 4 ∧ ∀ j : Nat, r.2.1 84 j = if (m.1 72 21).toNatClampNeg + (4 - d) ≤ j ∧ j < (m.1 72 21).toNatClampNeg + 4 then sBy v1 (j - (m.1 72 21).toNatClampNeg) else m.1 84 j) (fX12_sign_18 n v1 v2 m) := by
  have l4 := L4
  intro d
  induction d with
  | zero =>
    intro n v1 v2 m _ h2 hn h0 hL
    obtain ⟨n', rfl⟩ : ∃ n', n = n' + 1 := ⟨n - 1, by omega⟩
    have hz : ((0 : Nat) : Int) = 0 := rfl
    have e4 : ((m.1 72 21) + (4 : Int32)).toInt = (m.1 72 21).toInt + 4 := a_addl L4 (by omega) (by omega)
    unfold fX12_sign_18
    refine s_le (fun _ => s_ret ⟨e4, ?_, fun j => ?_⟩) (fun h => by omega)
    · rw [r_hit]; exact e4
    · rw [if_neg (by omega), r_cell (by decide)]
  | succ d ih =>
    intro n v1 v2 m hd h2 hn h0 hL
    have hdd : ((d + 1 : Nat) : Int) = (d : Int) + 1 := by omega
    obtain ⟨n', rfl⟩ : ∃ n', n = n' + 1 := ⟨n - 1, by omega⟩
    have et := a_tn h0
    have e1 : (v2 + (1 : Int32)).toInt = v2.toInt + 1 := a_addl L1 (by omega) (by omega)
    have eix : ((m.1 72 21) + v2).toInt = (m.1 72 21).toInt + v2.toInt := a_add (by omega) (by omega)
    have e8 : ((8 : Int32) * v2).toInt = 8 * v2.toInt := a_mul L8 rfl (by omega) (by omega)
    have e24 : ((24 : Int32) - ((8 : Int32) * v2)).toInt = 24 - 8 * v2.toInt := by
      rw [a_sub (by rw [L24, e8]; omega) (by rw [L24, e8]; omega), L24, e8]
    have esh : (24 : Int32) - ((8 : Int32) * v2) = nI (24 - 8 * (4 - (d + 1))) := Int32.toInt_inj.mp (by rw [nI_toInt (by omega), e24]; omega)
    have ht : ((m.1 72 21) + v2).toNatClampNeg = (m.1 72 21).toNatClampNeg + (4 - (d + 1)) := by
      have := a_tn (x := (m.1 72 21) + v2) (by omega)
      omega
    unfold fX12_sign_18
    refine s_le (fun h => by omega) (fun _ => s_ix (by omega) ?_)
    have hb : ((v1 >>> (((24 : Int32) - ((8 : Int32) * v2)) &&& 31)) &&& (255 : Int32)) = sBy v1 (4 - (d + 1)) := by
      rw [esh]; rfl
    rw [hb, ht]
    refine s_mono (ih n' v1 (v2 + (1 : Int32)) _ (by omega) (by omega) (by omega) h0 hL) ?_
    rintro r ⟨r1, r2, r3⟩
    refine ⟨r1, r2, fun j => ?_⟩
    rw [r3 j]
    have h21 : (sm_w1 m 84 ((m.1 72 21).toNatClampNeg + (4 - (d + 1))) (sBy v1 (4 - (d + 1)))).1 72 21 = m.1 72 21 := r_cell (by decide)
    rw [h21]
    by_cases q : (m.1 72 21).toNatClampNeg + (4 - d) ≤ j ∧ j < (m.1 72 21).toNatClampNeg + 4
    · rw [if_pos q, if_pos (by omega)]
    · rw [if_neg q]
      by_cases q2 : j = (m.1 72 21).toNatClampNeg + (4 - (d + 1))
      · subst q2
        rw [r_hit, if_pos (by omega)]
        exact congrArg (sBy v1) (by omega)
      · rw [r_place q2, if_neg (by omega)]
theorem tq_sign {x : Int32} {m s : sm_S} (h : XT m s) (hI : zI m) : TR (fun a b => a.1 = b.1 ∧ XT a.2 b.2) (fX11_sign x m) (fX12_sign x s) := by
  have l0 := L0
  have l1 := L1
  have l4 := L4
  have l24 := L24
  have l76 := L76
  have hfu := fuE
  have c1 : 0 ≤ (m.1 1 1).toInt ∧ (m.1 1 1).toInt ≤ 80 := hI.1 1 1
  have e1 : (m.1 1 1).toInt = (s.1 72 21).toInt := congrArg Int32.toInt h.1
  have s21 : (sm_w1 s 72 0 (0 : Int32)).1 72 21 = s.1 72 21 := rfl
  unfold fX11_sign fX8_append fX12_sign
  by_cases q : (m.1 1 1) ≤ (76 : Int32)
  · have q' := leI.mp q
    rw [if_pos q, if_pos (show s.1 72 21 ≤ (76 : Int32) by rw [← h.1]; exact q)]
    refine tl_bd (v_append 4 sm_fu x (24 : Int32) m (by omega) (by omega) (by omega) (by omega) (by omega)) (fun a ha => ?_)
    obtain ⟨a1, a2, a3⟩ := ha
    obtain ⟨b, eb, b1, b2, b3⟩ := v_sign12 4 sm_fu x (0 : Int32) (sm_w1 s 72 0 (0 : Int32)) (by omega) (by omega) (by omega) (by rw [s21]; omega) (by rw [s21]; omega)
    rw [s21] at b1 b2 b3
    rw [eb, if_neg (by rw [a1]; decide)]
    have e11 : (a.2.1 1 1).toInt = (b.2.1 72 21).toInt := by rw [a2, b2]; omega
    refine t_ret ⟨Int32.toInt_inj.mp (show (a.2.1 1 1).toInt = b.1.toInt by rw [a2, b1]; omega), Int32.toInt_inj.mp e11, fun j hj => ?_⟩
    have hj' : (j : Int) < (m.1 1 1).toInt + 4 := by
      have hj2 : (j : Int) < (a.2.1 1 1).toInt := hj
      rw [a2] at hj2; omega
    have et := a_tn (x := m.1 1 1) (by omega)
    show a.2.1 2 j = b.2.1 84 j
    rw [a3 j, b3 j, ← h.1]
    by_cases g : (m.1 1 1).toNatClampNeg ≤ j
    · rw [if_pos (by omega), if_pos (by omega)]
      exact congrArg (sBy x) (by omega)
    · rw [if_neg (by omega), if_neg (by omega), r_cell (by decide)]
      exact h.2 j (by omega)
  · rw [if_neg q, if_neg (show ¬ s.1 72 21 ≤ (76 : Int32) by rw [← h.1]; exact q), Option.bind_some]
    rw [if_pos rfl]
    exact t_ret ⟨rfl, h⟩
theorem R_sign {x : Int32} {m : sm_S} {r r' : Int32 × sm_S} (h : RR m) (hI : zI m) (e1 : fX11_sign x m = some r) (F1 : Fr wX11_sign m r.2) (e2 : fX12_sign x r.2 = some r') (F2 : Fr wX12_sign r.2 r'.2) : RR r'.2 ∧ r.1 = r'.1 := by
  have hm : RX m r.2 := h.mid F1 rfl
  obtain ⟨a, b, ea, eb, q1, q2⟩ := tq_sign (x := x) hm.1 hI
  obtain rfl := Option.some.inj (ea.symm.trans e1)
  obtain rfl := Option.some.inj (eb.symm.trans e2)
  exact ⟨⟨q2.fr (V := []) F2 Fr.refl rfl, hm.2.1.fr (Fr.trans (W := [(1, 1), (2, 999), (72, 0), (72, 21), (84, 999)]) (Fr.sub F1 rfl) F2 rfl) F2 rfl, hm.2.2.fr (Fr.trans (W := [(1, 1), (2, 999), (72, 0), (72, 21), (84, 999)]) (Fr.sub F1 rfl) F2 rfl) F2 rfl⟩, q1⟩
theorem tq_end {x : Int32} {m s : sm_S} (h : XT m s) (hJ : zI s) : TR (fun a b => a.1 = b.1 ∧ XT a.2 b.2) (fX11_end x m) (fX12_end x s) := by
  have l0 := L0
  have ll0 := LL0
  have c1 : 0 ≤ (s.1 72 21).toInt ∧ (s.1 72 21).toInt ≤ 80 := hJ.1 72 21
  have e1 : (m.1 1 1).toInt = (s.1 72 21).toInt := congrArg Int32.toInt h.1
  have i0 : zI (sm_w1 s 72 0 (0 : Int32)) := zI.w hJ rfl (show 0 ≤ (0 : Int32).toInt ∧ (0 : Int32).toInt ≤ 1 by omega)
  have ex : x.toInt64.toInt = x.toInt := Int32.toInt_toInt64 _
  have ey : (s.1 72 21).toInt64.toInt = (s.1 72 21).toInt := Int32.toInt_toInt64 _
  unfold fX11_end fX12_end
  refine tr_bd (zX12_in _ _ _ _ (by omega) i0) (fun q hq => ?_)
  obtain ⟨-, -, hq⟩ := hq
  refine tl_lt (fun g => tr_eq (fun _ => t_ret ⟨rfl, h⟩) (fun g' => by omega)) (fun g => ?_)
  refine tl_le (fun g2 => tr_eq (fun g' => by omega) (fun _ => t_ret ⟨rfl, rfl, fun j hj => ?_⟩)) (fun g2 => tr_eq (fun _ => t_ret ⟨rfl, h⟩) (fun g' => by omega))
  have hj2 : (j : Int) < x.toInt := hj
  exact h.2 j (by omega)
theorem R_end {x : Int32} {m : sm_S} {r r' : Int32 × sm_S} (h : RR m) (hJ : zI r.2) (e1 : fX11_end x m = some r) (F1 : Fr wX11_end m r.2) (e2 : fX12_end x r.2 = some r') (F2 : Fr wX12_end r.2 r'.2) : RR r'.2 ∧ r.1 = r'.1 := by
  have hm : RX m r.2 := h.mid F1 rfl
  obtain ⟨a, b, ea, eb, q1, q2⟩ := tq_end (x := x) hm.1 hJ
  obtain rfl := Option.some.inj (ea.symm.trans e1)
  obtain rfl := Option.some.inj (eb.symm.trans e2)
  exact ⟨⟨q2.fr (V := []) F2 Fr.refl rfl, hm.2.1.fr (Fr.trans (W := [(1, 1), (72, 0), (72, 21)]) (Fr.sub F1 rfl) F2 rfl) F2 rfl, hm.2.2.fr (Fr.trans (W := [(1, 1), (72, 0), (72, 21)]) (Fr.sub F1 rfl) F2 rfl) F2 rfl⟩, q1⟩
theorem XL.w8 {m s : sm_S} {k : Nat} {v : Int32} (h : XL m s) : XL (sm_w1 m 8 k v) (sm_w1 s 78 k v) := by
  obtain ⟨⟨h1, h2, h3, h4⟩, h5, h6⟩ := h
  refine ⟨⟨h1, h2, fun j hj => h3 j hj, fun j hj => ?_⟩, h5, h6⟩
  obtain ⟨q1, q2, q3, q4, q5, q6, q7, q8⟩ := h4 j hj
  refine ⟨q1, q2, ?_, q4, q5, q6, q7, q8⟩
  by_cases e : j = k
  · subst e; rw [r_hit, r_hit]
  · rw [r_place e, r_place e]; exact q3
theorem XL.w11 {m s : sm_S} {k : Nat} {v : Int32} (h : XL m s) : XL (sm_w1 m 11 k v) (sm_w1 s 81 k v) := by
  obtain ⟨⟨h1, h2, h3, h4⟩, h5, h6⟩ := h
  refine ⟨⟨h1, h2, fun j hj => h3 j hj, fun j hj => ?_⟩, h5, h6⟩
  obtain ⟨q1, q2, q3, q4, q5, q6, q7, q8⟩ := h4 j hj
  refine ⟨q1, q2, q3, q4, q5, ?_, q7, q8⟩
  by_cases e : j = k
  · subst e; rw [r_hit, r_hit]
  · rw [r_place e, r_place e]; exact q6
theorem XL.w12 {m s : sm_S} {k : Nat} {v : Int32} (h : XL m s) : XL (sm_w1 m 12 k v) (sm_w1 s 82 k v) := by
  obtain ⟨⟨h1, h2, h3, h4⟩, h5, h6⟩ := h
  refine ⟨⟨h1, h2, fun j hj => h3 j hj, fun j hj => ?_⟩, h5, h6⟩
  obtain ⟨q1, q2, q3, q4, q5, q6, q7, q8⟩ := h4 j hj
  refine ⟨q1, q2, q3, q4, q5, q6, ?_, q8⟩
  by_cases e : j = k
  · subst e; rw [r_hit, r_hit]
  · rw [r_place e, r_place e]; exact q7
theorem XL.hedge {m s : sm_S} (h : XL m s) : (m.1 3 1).toInt = (s.1 72 6).toInt := congrArg Int32.toInt h.1.2.1
theorem XL.corner {m s : sm_S} (h : XL m s) : (m.1 3 0).toInt = (s.1 72 3).toInt := congrArg Int32.toInt h.1.1
theorem XL.row {m s : sm_S} (h : XL m s) {x : Int32} (h0 : 0 ≤ x.toInt) (h1 : x.toInt < (m.1 3 1).toInt) : m.1 6 x.toNatClampNeg = s.1 76 x.toNatClampNeg ∧ m.1 7 x.toNatClampNeg = s.1 77 x.toNatClampNeg ∧ m.1 8 x.toNatClampNeg = s.1 78 x.toNatClampNeg ∧ m.1 9 x.toNatClampNeg = s.1 79 x.toNatClampNeg ∧ m.1 10 x.toNatClampNeg = s.1 80 x.toNatClampNeg ∧ m.1 11 x.toNatClampNeg = s.1 81 x.toNatClampNeg ∧ m.1 12 x.toNatClampNeg = s.1 82 x.toNatClampNeg ∧ m.1 13 x.toNatClampNeg = (if bt (s.1 72 14) x.toNatClampNeg then (1 : Int32) else 0) := by
  have e := a_tn h0
  exact h.1.2.2.2 _ (by omega)
theorem tq_set {x1 x2 x3 : Int32} {m s : sm_S} (h : XL m s) (hI : zI m) (hJ : zI s) : TR (fun a b => a.1 = b.1 ∧ XL a.2 b.2) (fX11_set x1 x2 x3 m) (fX12_set x1 x2 x3 s) := by
  have l0 := L0
  have l1 := L1
  have l2 := L2
  have l3 := L3
  have l9 := L9
  have l99 := L99
  have l9999 := L9999
  have ll0 := LL0
  have ll1 := LL1
  have ll9 := LL9
  have ll99 := LL99
  have ll9999 := LL9999
  have c31 : 0 ≤ (m.1 3 1).toInt ∧ (m.1 3 1).toInt ≤ 14 := hI.1 3 1
  have e31 := h.hedge
  have i0 : zI (sm_w1 s 72 0 (0 : Int32)) := zI.w hJ rfl (show 0 ≤ (0 : Int32).toInt ∧ (0 : Int32).toInt ≤ 1 by omega)
  have ex1 : x1.toInt64.toInt = x1.toInt := Int32.toInt_toInt64 _
  have ex3 : x3.toInt64.toInt = x3.toInt := Int32.toInt_toInt64 _
  have s6 : ((sm_w1 s 72 0 (0 : Int32)).1 72 6).toInt = (s.1 72 6).toInt := rfl
  have hX : XL m (sm_w1 s 72 0 (0 : Int32)) := h
  unfold fX11_set fX12_set
  refine tr_bd (zX12_in _ _ _ _ (by omega) i0) (fun q hq => ?_)
  obtain ⟨-, -, hq⟩ := hq
  refine tl_eq (fun g0 => ?_) (fun g0 => ?_)
  · -- worth
    refine tr_eq (fun g => by omega) (fun _ => ?_)
    refine tr_bd (zX12_isHedge x2 _ i0) (fun p hp => ?_)
    obtain ⟨-, -, hp⟩ := hp
    unfold fX11_setDigit
    rw [Option.bind_assoc]
    refine tl_bd (zX2_hasHedge x2 m hI) (fun p2 hp2 => ?_)
    obtain ⟨-, -, hp2⟩ := hp2
    by_cases gp : p2 = 0
    · have gp' : p2.toInt = 0 := by rw [gp]; exact l0
      rw [if_pos gp, Option.bind_some]
      refine tr_eq (fun _ => tr_eq (fun g2 => by omega) (fun _ => tr_eq (fun g3 => by omega) (fun _ => t_ret ⟨rfl, hX⟩))) (fun g => by omega)
    · have gp' : p2.toInt ≠ 0 := fun z => gp (eqI.mpr (by rw [z]; exact l0.symm))
      rw [if_neg gp]
      refine tr_eq (fun g => by omega) (fun _ => ?_)
      refine tr_bd (zX12_in _ _ _ _ (by omega) i0) (fun u hu => ?_)
      obtain ⟨-, -, hu⟩ := hu
      by_cases g1 : x3 < 0
      · have g1' := ltI.mp g1
        rw [if_pos g1, Option.bind_some]
        refine tr_eq (fun _ => tr_eq (fun g2 => by omega) (fun _ => tr_eq (fun g3 => by omega) (fun _ => t_ret ⟨rfl, hX⟩))) (fun g => by omega)
      · have g1' := Int.not_lt.mp (fun z => g1 (ltI.mpr z))
        rw [if_neg g1]
        by_cases g2 : x3 ≤ (9 : Int32)
        · have g2' := leI.mp g2
          rw [if_pos g2, if_pos (ix_in (show 0 ≤ x2.toInt ∧ x2.toInt < ((14 : Nat) : Int) by omega)), if_pos (ix_in (show 0 ≤ x2.toInt ∧ x2.toInt < ((14 : Nat) : Int) by omega)), Option.bind_some]
          refine tr_eq (fun g => by omega) (fun _ => ?_)
          refine tr_eq (fun _ => ?_) (fun g => absurd g0 g)
          refine tr_ix (by omega) (tr_ix (by omega) (t_ret ⟨?_, hX.w11⟩))
          exact (h.row (by omega) (by omega)).2.2.2.2.2.1
        · have g2' := Int.not_le.mp (fun z => g2 (leI.mpr z))
          rw [if_neg g2, Option.bind_some]
          refine tr_eq (fun _ => tr_eq (fun g2 => by omega) (fun _ => tr_eq (fun g3 => by omega) (fun _ => t_ret ⟨rfl, hX⟩))) (fun g => by omega)
  · refine tl_eq (fun g1 => ?_) (fun g1 => ?_)
    · refine tr_eq (fun g => by omega) (fun _ => ?_)
      refine tr_bd (zX12_isHedge x2 _ i0) (fun p hp => ?_)
      obtain ⟨-, -, hp⟩ := hp
      unfold fX11_setDigit_i1
      rw [Option.bind_assoc]
      refine tl_bd (zX2_hasHedge x2 m hI) (fun p2 hp2 => ?_)
      obtain ⟨-, -, hp2⟩ := hp2
      by_cases gp : p2 = 0
      · have gp' : p2.toInt = 0 := by rw [gp]; exact l0
        rw [if_pos gp, Option.bind_some]
        refine tr_eq (fun _ => tr_eq (fun g2 => by omega) (fun _ => tr_eq (fun g3 => by omega) (fun _ => t_ret ⟨rfl, hX⟩))) (fun g => by omega)
      · have gp' : p2.toInt ≠ 0 := fun z => gp (eqI.mpr (by rw [z]; exact l0.symm))
        rw [if_neg gp]
        refine tr_eq (fun g => by omega) (fun _ => ?_)
        refine tr_bd (zX12_in _ _ _ _ (by omega) i0) (fun u hu => ?_)
        obtain ⟨-, -, hu⟩ := hu
        by_cases g1 : x3 < 0
        · have g1' := ltI.mp g1
          rw [if_pos g1, Option.bind_some]
          refine tr_eq (fun _ => tr_eq (fun g2 => by omega) (fun _ => tr_eq (fun g3 => by omega) (fun _ => t_ret ⟨rfl, hX⟩))) (fun g => by omega)
        · have g1' := Int.not_lt.mp (fun z => g1 (ltI.mpr z))
          rw [if_neg g1]
          by_cases g2 : x3 ≤ (9 : Int32)
          · have g2' := leI.mp g2
            rw [if_pos g2, if_pos (ix_in (show 0 ≤ x2.toInt ∧ x2.toInt < ((14 : Nat) : Int) by omega)), if_pos (ix_in (show 0 ≤ x2.toInt ∧ x2.toInt < ((14 : Nat) : Int) by omega)), Option.bind_some]
            refine tr_eq (fun g => by omega) (fun _ => ?_)
            refine tr_eq (fun g => absurd g g0) (fun _ => ?_)
            refine tr_ix (by omega) (tr_ix (by omega) (t_ret ⟨?_, hX.w12⟩))
            exact (h.row (by omega) (by omega)).2.2.2.2.2.2.1
          · have g2' := Int.not_le.mp (fun z => g2 (leI.mpr z))
            rw [if_neg g2, Option.bind_some]
            refine tr_eq (fun _ => tr_eq (fun g2 => by omega) (fun _ => tr_eq (fun g3 => by omega) (fun _ => t_ret ⟨rfl, hX⟩))) (fun g => by omega)
    · refine tr_eq (fun _ => ?_) (fun g => by omega)
      refine tl_eq (fun g2 => ?_) (fun g2 => ?_)
      · refine tr_eq (fun _ => ?_) (fun g => by omega)
        refine tr_bd (zX12_in _ _ _ _ (by omega) i0) (fun u hu => ?_)
        obtain ⟨-, -, hu⟩ := hu
        unfold fX11_setNights
        by_cases k1 : x3 < 0
        · have k1' := ltI.mp k1
          rw [if_pos k1, Option.bind_some]
          refine tr_eq (fun _ => tr_eq (fun g3 => by omega) (fun _ => t_ret ⟨rfl, hX⟩)) (fun g => by omega)
        · have k1' := Int.not_lt.mp (fun z => k1 (ltI.mpr z))
          rw [if_neg k1]
          by_cases k2 : x3 ≤ (99 : Int32)
          · have k2' := leI.mp k2
            rw [if_pos k2, Option.bind_some]
            refine tr_eq (fun g => by omega) (fun _ => t_ret ⟨h.2.1, ?_⟩)
            exact ⟨⟨h.1.1, h.1.2.1, h.1.2.2.1, h.1.2.2.2⟩, rfl, h.2.2⟩
          · have k2' := Int.not_le.mp (fun z => k2 (leI.mpr z))
            rw [if_neg k2, Option.bind_some]
            refine tr_eq (fun _ => tr_eq (fun g3 => by omega) (fun _ => t_ret ⟨rfl, hX⟩)) (fun g => by omega)
      · refine tr_eq (fun g => absurd g g2) (fun _ => ?_)
        refine tl_eq (fun g3 => ?_) (fun g3 => ?_)
        · refine tr_eq (fun _ => ?_) (fun g => absurd g3 g)
          refine tr_bd (zX12_in _ _ _ _ (by omega) i0) (fun u hu => ?_)
          obtain ⟨-, -, hu⟩ := hu
          unfold fX11_setFrost
          by_cases k1 : x3 < 0
          · have k1' := ltI.mp k1
            rw [if_pos k1, Option.bind_some]
            refine tr_eq (fun _ => t_ret ⟨rfl, hX⟩) (fun g => by omega)
          · have k1' := Int.not_lt.mp (fun z => k1 (ltI.mpr z))
            rw [if_neg k1]
            by_cases k2 : x3 ≤ (9999 : Int32)
            · have k2' := leI.mp k2
              rw [if_pos k2, Option.bind_some]
              refine tr_eq (fun g => by omega) (fun _ => t_ret ⟨h.2.2, ?_⟩)
              exact ⟨⟨h.1.1, h.1.2.1, h.1.2.2.1, h.1.2.2.2⟩, h.2.1, rfl⟩
            · have k2' := Int.not_le.mp (fun z => k2 (leI.mpr z))
              rw [if_neg k2, Option.bind_some]
              refine tr_eq (fun _ => t_ret ⟨rfl, hX⟩) (fun g => by omega)
        · exact tr_eq (fun g => absurd g g3) (fun _ => t_ret ⟨rfl, hX⟩)
theorem R_set {x1 x2 x3 : Int32} {m : sm_S} {r r' : Int32 × sm_S} (h : RR m) (hI : zI m) (hJ : zI r.2) (e1 : fX11_set x1 x2 x3 m = some r) (F1 : Fr wX11_set m r.2) (e2 : fX12_set x1 x2 x3 r.2 = some r') (F2 : Fr wX12_set r.2 r'.2) : RR r'.2 ∧ r.1 = r'.1 := by
  have hm : RX m r.2 := h.mid F1 rfl
  obtain ⟨a, b, ea, eb, q1, q2⟩ := tq_set (x1 := x1) (x2 := x2) (x3 := x3) hm.2.1 hI hJ
  obtain rfl := Option.some.inj (ea.symm.trans e1)
  obtain rfl := Option.some.inj (eb.symm.trans e2)
  have F := Fr.trans (W := [(3, 2), (3, 3), (11, 999), (12, 999), (72, 0), (72, 15), (72, 16), (81, 999), (82, 999)]) (Fr.sub F1 rfl) F2 rfl
  exact ⟨⟨hm.1.fr F F2 rfl, q2.fr (V := []) F2 Fr.refl rfl, hm.2.2.fr F F2 rfl⟩, q1⟩
theorem tq_sheet_loop : ∀ (n : Nat) (v1 v2 v3 v4 v5 v6 v7 w : Int32) (m s : sm_S), ((v1.toInt = 3 ∧ v5.toInt = 1) ∨ (0 ≤ v1.toInt ∧ v1.toInt ≤ 2 ∧ v5.toInt = 0)) → 0 ≤ v7.toInt → v7.toInt ≤ 14 → (m.1 3 1).toInt ≤ 14 → 14 - v7.toInt < (n : Int) → w = v3 + (v7 * v4) → XL m s → TR (fun a b => a.1 = b.1 ∧ XL a.2 b.2) (fX11_sheet_47 n v1 v2 v3 v4 v5 v6 v7 m) (fX12_sheet_46 n v1 v2 v4 v6 w v7 s) := by
  have l0 := L0
  have l1 := L1
  have l3 := L3
  intro n
  induction n with
  | zero =>
    intro v1 v2 v3 v4 v5 v6 v7 w m s h5 h7 h7' hh hn hw hX
    have hz : ((0 : Nat) : Int) = 0 := rfl
    omega
  | succ n ih =>
    intro v1 v2 v3 v4 v5 v6 v7 w m s h5 h7 h7' hh hn hw hX
    have hnn : ((n + 1 : Nat) : Int) = (n : Int) + 1 := by omega
    have e31 := hX.hedge
    subst hw
    unfold fX11_sheet_47 fX12_sheet_46
    refine tl_le (fun g => tr_le (fun _ => ?_) (fun g' => by omega)) (fun g => tr_le (fun g' => by omega) (fun _ => ?_))
    · exact tl_eq (fun g5 => tr_eq (fun g1 => by omega) (fun _ => t_ret ⟨rfl, hX⟩)) (fun g5 => tr_eq (fun _ => t_ret ⟨rfl, hX⟩) (fun g1 => by omega))
    · have hx : 0 ≤ v7.toInt ∧ v7.toInt < ((14 : Nat) : Int) := by omega
      have e7 : (v7 + (1 : Int32)).toInt = v7.toInt + 1 := a_addl L1 (by omega) (by omega)
      have next : ∀ e : Int32, TR (fun a b => a.1 = b.1 ∧ XL a.2 b.2) (fX11_sheet_47 n v1 v2 v3 v4 v5 (v6 + e) (v7 + (1 : Int32)) (sm_w1 m 8 (v7).toNatClampNeg e)) (fX12_sheet_46 n v1 v2 v4 (v6 + e) ((v3 + (v7 * v4)) + v4) (v7 + (1 : Int32)) (sm_w1 s 78 (v7).toNatClampNeg e)) := fun e => ih v1 v2 v3 v4 v5 (v6 + e) (v7 + (1 : Int32)) ((v3 + (v7 * v4)) + v4) _ _ h5 (by omega) (by omega) hh (by omega) (by rw [Int32.add_mul, Int32.one_mul, Int32.add_assoc]) hX.w8
      refine tl_eq (fun g5 => ?_) (fun g5 => ?_)
      · refine tl_le (fun g2 => ?_) (fun g2 => ?_)
        · refine tl_ix hx (tl_ix hx ?_)
          rw [r_hit]
          refine tr_eq (fun q0 => tr_eq (fun q3 => by omega) (fun _ => tr_lt (fun q => by omega) (fun _ => tr_ix hx (tr_ix hx ?_)))) (fun q0 => tr_eq (fun q1 => tr_eq (fun q3 => by omega) (fun _ => tr_lt (fun q => by omega) (fun _ => tr_ix hx (tr_ix hx ?_)))) (fun q1 => tr_eq (fun q3 => by omega) (fun _ => tr_lt (fun q => by omega) (fun _ => tr_ix hx (tr_ix hx ?_)))))
          · rw [r_hit]; exact next _
          · rw [r_hit]; exact next _
          · rw [r_hit]; exact next _
        · unfold fX11_sheetEntry
          refine tr_eq (fun q0 => ?_) (fun q0 => ?_)
          · rw [if_pos (eqI.mpr q0), Option.bind_some]
            refine tl_ix hx (tl_ix hx ?_)
            rw [r_hit]
            refine tr_eq (fun q3 => by omega) (fun _ => tr_lt (fun _ => tr_ix hx (tr_ix hx ?_)) (fun q => by omega))
            rw [r_hit]; exact next _
          · rw [if_neg (fun z => q0 (eqI.mp z))]
            refine tr_eq (fun q1 => ?_) (fun q1 => ?_)
            · rw [if_pos (eqI.mpr q1), Option.bind_some]
              refine tl_ix hx (tl_ix hx ?_)
              rw [r_hit]
              refine tr_eq (fun q3 => by omega) (fun _ => tr_lt (fun _ => tr_ix hx (tr_ix hx ?_)) (fun q => by omega))
              rw [r_hit]; exact next _
            · rw [if_neg (fun z => q1 (eqI.mp z)), Option.bind_some]
              refine tl_ix hx (tl_ix hx ?_)
              rw [r_hit]
              refine tr_eq (fun q3 => by omega) (fun _ => tr_lt (fun _ => tr_ix hx (tr_ix hx ?_)) (fun q => by omega))
              rw [r_hit]; exact next _
      · refine tl_ix hx (tl_ix hx ?_)
        rw [r_hit]
        refine tr_eq (fun q0 => by omega) (fun _ => tr_eq (fun q1 => by omega) (fun _ => tr_eq (fun _ => tr_ix hx (tr_ix hx ?_)) (fun q3 => by omega)))
        rw [r_hit]; exact next _
theorem tq_sheet {x1 x2 x3 x4 : Int32} {m s : sm_S} (h : XL m s) (hI : zI m) (hJ : zI s) : TR (fun a b => a.1 = b.1 ∧ XL a.2 b.2) (fX11_sheet x1 x2 x3 x4 m) (fX12_sheet x1 x2 x3 x4 s) := by
  have l0 := L0
  have l1 := L1
  have l3 := L3
  have l14 := L14
  have ll0 := LL0
  have ll3 := LL3
  have hfu := fuE
  have c31 : 0 ≤ (m.1 3 1).toInt ∧ (m.1 3 1).toInt ≤ 14 := hI.1 3 1
  have i0 : zI (sm_w1 s 72 0 (0 : Int32)) := zI.w hJ rfl (show 0 ≤ (0 : Int32).toInt ∧ (0 : Int32).toInt ≤ 1 by omega)
  have ex1 : x1.toInt64.toInt = x1.toInt := Int32.toInt_toInt64 _
  have hX : XL m (sm_w1 s 72 0 (0 : Int32)) := h
  have ez : x3 = x3 + ((0 : Int32) * x4) := by rw [Int32.zero_mul, Int32.add_zero]
  unfold fX11_sheet fX12_sheet
  refine tr_bd (zX12_in _ _ _ _ (by omega) i0) (fun q hq => ?_)
  obtain ⟨-, -, hq⟩ := hq
  refine tl_lt (fun g => tr_eq (fun _ => t_ret ⟨rfl, hX⟩) (fun g' => by omega)) (fun g => ?_)
  refine tl_lt (fun g2 => tr_eq (fun _ => t_ret ⟨rfl, hX⟩) (fun g' => by omega)) (fun g2 => tr_eq (fun g' => by omega) (fun _ => ?_))
  refine tl_le (fun g3 => tr_le (fun _ => ?_) (fun g' => by omega)) (fun g3 => tr_le (fun g' => by omega) (fun _ => t_ret ⟨rfl, hX⟩))
  refine tl_eq (fun g4 => tr_eq (fun _ => ?_) (fun g' => absurd g4 g')) (fun g4 => tr_eq (fun g' => absurd g' g4) (fun _ => ?_))
  · exact tq_sheet_loop sm_fu x1 x2 x3 x4 (1 : Int32) (0 : Int32) (0 : Int32) x3 m _ (by omega) (by omega) (by omega) (by omega) (by omega) ez hX
  · refine tl_le (fun g5 => tr_le (fun _ => ?_) (fun g' => by omega)) (fun g5 => tr_le (fun g' => by omega) (fun _ => t_ret ⟨rfl, hX⟩))
    exact tq_sheet_loop sm_fu x1 x2 x3 x4 (0 : Int32) (0 : Int32) (0 : Int32) x3 m _ (by omega) (by omega) (by omega) (by omega) (by omega) ez hX
theorem R_sheet {x1 x2 x3 x4 : Int32} {m : sm_S} {r r' : Int32 × sm_S} (h : RR m) (hI : zI m) (hJ : zI r.2) (e1 : fX11_sheet x1 x2 x3 x4 m = some r) (F1 : Fr wX11_sheet m r.2) (e2 : fX12_sheet x1 x2 x3 x4 r.2 = some r') (F2 : Fr wX12_sheet r.2 r'.2) : RR r'.2 ∧ r.1 = r'.1 := by
  have hm : RX m r.2 := h.mid F1 rfl
  obtain ⟨a, b, ea, eb, q1, q2⟩ := tq_sheet (x1 := x1) (x2 := x2) (x3 := x3) (x4 := x4) hm.2.1 hI hJ
  obtain rfl := Option.some.inj (ea.symm.trans e1)
  obtain rfl := Option.some.inj (eb.symm.trans e2)
  have F := Fr.trans (W := [(8, 999), (72, 0), (78, 999)]) (Fr.sub F1 rfl) F2 rfl
  exact ⟨⟨hm.1.fr F F2 rfl, q2.fr (V := []) F2 Fr.refl rfl, hm.2.2.fr F F2 rfl⟩, q1⟩
theorem XE.push {m s : sm_S} {x y : Int32} (h : XE m s) (h0 : 0 ≤ (m.1 51 0).toInt) (h1 : (m.1 51 0).toInt < 12) (hx : x.toInt < (m.1 3 1).toInt) : XE (sm_w1 (sm_w1 (sm_w1 m 53 (m.1 51 0).toNatClampNeg x) 54 (m.1 51 0).toNatClampNeg y) 51 0 ((m.1 51 0) + (1 : Int32))) (sm_w1 (sm_w1 (sm_w1 (sm_w1 s 72 0 (0 : Int32)) 102 (s.1 72 51).toNatClampNeg x) 103 (s.1 72 51).toNatClampNeg y) 72 51 ((s.1 72 51) + (1 : Int32))) := by
  have et := a_tn h0
  have e1 : ((m.1 51 0) + (1 : Int32)).toInt = (m.1 51 0).toInt + 1 := a_addl L1 (by omega) (by omega)
  rw [← h.1]
  refine ⟨by rw [r_hit, r_hit], fun j hj => ?_⟩
  rw [r_hit, e1] at hj
  rw [r_cell (c := 53) (by decide), r_cell (c := 53) (by decide), r_cell (c := 54) (by decide), r_cell (c := 102) (by decide), r_cell (c := 102) (by decide), r_cell (c := 103) (by decide), r_cell (c := 3) (by decide), r_cell (c := 3) (by decide), r_cell (c := 3) (by decide)]
  by_cases q : j = (m.1 51 0).toNatClampNeg
  · subst q; rw [r_hit, r_hit, r_hit, r_hit]; exact ⟨rfl, rfl, hx⟩
  · rw [r_place q, r_place q, r_place q, r_place q, r_place q, r_place q, r_cell (c := 102) (by decide), r_cell (c := 103) (by decide)]
    exact h.2 j (by omega)
theorem tq_heard {x1 x2 : Int32} {m s : sm_S} (hL : XL m s) (h : XE m s) (hI : zI m) (hJ : zI s) : TR (fun a b => a.1 = b.1 ∧ XE a.2 b.2) (fX11_heard x1 x2 m) (fX12_heard x1 x2 s) := by
  have l0 := L0
  have l1 := L1
  have l6 := L6
  have l12 := L12
  have ll0 := LL0
  have ll6 := LL6
  have c51 : 0 ≤ (m.1 51 0).toInt ∧ (m.1 51 0).toInt ≤ 12 := hI.1 51 0
  have e51 : (m.1 51 0).toInt = (s.1 72 51).toInt := congrArg Int32.toInt h.1
  have e31 := hL.hedge
  have i0 : zI (sm_w1 s 72 0 (0 : Int32)) := zI.w hJ rfl (show 0 ≤ (0 : Int32).toInt ∧ (0 : Int32).toInt ≤ 1 by omega)
  have ex2 : x2.toInt64.toInt = x2.toInt := Int32.toInt_toInt64 _
  have s6 : ((sm_w1 s 72 0 (0 : Int32)).1 72 6).toInt = (s.1 72 6).toInt := rfl
  have hX : XE m (sm_w1 s 72 0 (0 : Int32)) := h
  unfold fX11_heard fX12_heard
  refine tl_bd (zX2_hasHedge x1 m hI) (fun p hp => ?_)
  obtain ⟨-, -, hp⟩ := hp
  refine tr_bd (zX12_isHedge x1 _ i0) (fun q hq => ?_)
  obtain ⟨-, -, hq⟩ := hq
  refine tl_eq (fun g => tr_eq (fun _ => t_ret ⟨rfl, hX⟩) (fun g' => by omega)) (fun g => tr_eq (fun g' => by omega) (fun _ => ?_))
  refine tr_bd (zX12_in _ _ _ _ (by omega) i0) (fun u hu => ?_)
  obtain ⟨-, -, hu⟩ := hu
  refine tl_lt (fun g2 => tr_eq (fun _ => t_ret ⟨rfl, hX⟩) (fun g' => by omega)) (fun g2 => ?_)
  refine tl_le (fun g3 => tr_eq (fun g' => by omega) (fun _ => ?_)) (fun g3 => tr_eq (fun _ => t_ret ⟨rfl, hX⟩) (fun g' => by omega))
  unfold fX0_hear
  by_cases g4 : (m.1 51 0) < (12 : Int32)
  · have g4' := ltI.mp g4
    rw [if_pos g4, if_pos (ix_in (show 0 ≤ (m.1 51 0).toInt ∧ (m.1 51 0).toInt < ((12 : Nat) : Int) by omega)), if_pos (ix_in (show 0 ≤ (m.1 51 0).toInt ∧ (m.1 51 0).toInt < ((12 : Nat) : Int) by omega)), Option.bind_some]
    rw [if_neg (show ¬ ((1 : Int32) = 0) by decide)]
    refine tr_eq (fun g' => by omega) (fun _ => tr_ix (by omega) (tr_ix (by omega) (t_ret ⟨?_, XE.push h c51.1 (by omega) (by omega)⟩)))
    show (sm_w1 (sm_w1 (sm_w1 m 53 (m.1 51 0).toNatClampNeg x1) 54 (m.1 51 0).toNatClampNeg x2) 51 0 ((m.1 51 0) + (1 : Int32))).1 51 0 = (s.1 72 51) + (1 : Int32)
    rw [r_hit, h.1]
  · have g4' := Int.not_lt.mp (fun z => g4 (ltI.mpr z))
    rw [if_neg g4, Option.bind_some, if_pos rfl]
    exact tr_eq (fun _ => t_ret ⟨rfl, hX⟩) (fun g' => by omega)
theorem R_heard {x1 x2 : Int32} {m : sm_S} {r r' : Int32 × sm_S} (h : RR m) (hI : zI m) (hJ : zI r.2) (e1 : fX11_heard x1 x2 m = some r) (F1 : Fr wX11_heard m r.2) (e2 : fX12_heard x1 x2 r.2 = some r') (F2 : Fr wX12_heard r.2 r'.2) : RR r'.2 ∧ r.1 = r'.1 := by
  have hm : RX m r.2 := h.mid F1 rfl
  obtain ⟨a, b, ea, eb, q1, q2⟩ := tq_heard (x1 := x1) (x2 := x2) hm.2.1 hm.2.2 hI hJ
  obtain rfl := Option.some.inj (ea.symm.trans e1)
  obtain rfl := Option.some.inj (eb.symm.trans e2)
  have F := Fr.trans (W := [(51, 0), (53, 999), (54, 999), (72, 0), (72, 51), (102, 999), (103, 999)]) (Fr.sub F1 rfl) F2 rfl
  exact ⟨⟨hm.1.fr F F2 rfl, hm.2.1.fr F F2 rfl, q2.fr (V := []) F2 Fr.refl rfl⟩, q1⟩
theorem tq_forget {m s : sm_S} (h : XE m s) (hI : zI m) : TR (fun a b => a.1 = b.1 ∧ XE a.2 b.2) (fX11_forget m) (fX12_forget s) := by
  have l0 := L0
  have c51 : 0 ≤ (m.1 51 0).toInt ∧ (m.1 51 0).toInt ≤ 12 := hI.1 51 0
  have e51 : (m.1 51 0).toInt = (s.1 72 51).toInt := congrArg Int32.toInt h.1
  have e1 : ((m.1 51 0) - (1 : Int32)).toInt = (m.1 51 0).toInt - 1 := a_subl L1 (by omega) (by omega)
  unfold fX11_forget fX12_forget
  refine tl_eq (fun g => tr_eq (fun _ => t_ret ⟨rfl, h⟩) (fun g' => by omega)) (fun g => tr_eq (fun g' => by omega) (fun _ => t_ret ⟨?_, ?_, fun j hj => ?_⟩))
  · show (m.1 51 0) - (1 : Int32) = (s.1 72 51) - (1 : Int32)
    rw [h.1]
  · show (m.1 51 0) - (1 : Int32) = (s.1 72 51) - (1 : Int32)
    rw [h.1]
  · have hj2 : (j : Int) < ((m.1 51 0) - (1 : Int32)).toInt := hj
    exact h.2 j (by omega)
theorem R_forget {m : sm_S} {r r' : Int32 × sm_S} (h : RR m) (hI : zI m) (e1 : fX11_forget m = some r) (F1 : Fr wX11_forget m r.2) (e2 : fX12_forget r.2 = some r') (F2 : Fr wX12_forget r.2 r'.2) : RR r'.2 ∧ r.1 = r'.1 := by
  have hm : RX m r.2 := h.mid F1 rfl
  obtain ⟨a, b, ea, eb, q1, q2⟩ := tq_forget hm.2.2 hI
  obtain rfl := Option.some.inj (ea.symm.trans e1)
  obtain rfl := Option.some.inj (eb.symm.trans e2)
  have F := Fr.trans (W := [(51, 0), (72, 0), (72, 51)]) (Fr.sub F1 rfl) F2 rfl
  exact ⟨⟨hm.1.fr F F2 rfl, hm.2.1.fr F F2 rfl, q2.fr (V := []) F2 Fr.refl rfl⟩, q1⟩
/-! ANSWERS ALONE: grass, go -/
theorem tq_grass {x1 x2 : Int32} {m s : sm_S} (hR : RX m s) (hI : zI m) (hJ : zI s) (_ : zC s) : TR (fun a b => a = b.1) (fX11_grass x1 x2 m) (fX12_grass x1 x2 s) := by
  have h := hR.2.1
  have l0 := L0
  have e30 := h.corner
  have c30 : 0 ≤ (m.1 3 0).toInt ∧ (m.1 3 0).toInt ≤ 10 := hI.1 3 0
  have i0 : zI (sm_w1 s 72 0 (0 : Int32)) := zI.w hJ rfl (show 0 ≤ (0 : Int32).toInt ∧ (0 : Int32).toInt ≤ 1 by omega)
  have s3 : ((sm_w1 s 72 0 (0 : Int32)).1 72 3).toInt = (s.1 72 3).toInt := rfl
  unfold fX11_grass fX12_grass
  refine tl_bd (zX2_hasCorner x1 m hI) (fun p hp => ?_)
  obtain ⟨-, -, hp⟩ := hp
  refine tr_bd (zX12_isCorner x1 _ i0) (fun q hq => ?_)
  obtain ⟨-, -, hq⟩ := hq
  refine tl_eq (fun g => tr_eq (fun _ => t_ret rfl) (fun g' => by omega)) (fun g => tr_eq (fun g' => by omega) (fun _ => ?_))
  refine tl_bd (zX2_hasCorner x2 m hI) (fun p2 hp2 => ?_)
  obtain ⟨-, -, hp2⟩ := hp2
  refine tr_bd (zX12_isCorner x2 _ i0) (fun q2 hq2 => ?_)
  obtain ⟨-, -, hq2⟩ := hq2
  refine tl_eq (fun g => tr_eq (fun _ => t_ret rfl) (fun g' => by omega)) (fun g => tr_eq (fun g' => by omega) (fun _ => ?_))
  have h1 : 0 ≤ x1.toInt ∧ x1.toInt < ((10 : Nat) : Int) := by omega
  have h2 : 0 ≤ x2.toInt ∧ x2.toInt < ((10 : Nat) : Int) := by omega
  have t1 := a_tn h1.1
  have t2 := a_tn h2.1
  obtain ⟨u1, u2⟩ := h.1.2.2.1 x1.toNatClampNeg (by omega)
  obtain ⟨w1, w2⟩ := h.1.2.2.1 x2.toNatClampNeg (by omega)
  unfold fX2_grassBetween fX12_grassOf
  rw [if_pos (ix_in h1), if_pos (ix_in h2), if_pos (ix_in h1), if_pos (ix_in h2), if_pos (ix_in h1), if_pos (ix_in h2), if_pos (ix_in h1), if_pos (ix_in h2), Option.bind_some, Option.bind_some]
  refine t_ret ?_
  rw [u1, u2, w1, w2]
  rfl
theorem v_go12 : ∀ (n : Nat) (v2 : Int32) (m : sm_S) (r : Int32 × sm_S), fX12_go_32 n v2 m = some r → r.1 = 1 := by
  intro n
  induction n with
  | zero => intro v2 m r h; cases h
  | succ n ih =>
    intro v2 m r h
    unfold fX12_go_32 at h
    split at h
    · obtain rfl := Option.some.inj h; rfl
    · split at h
      · exact ih _ _ _ h
      · cases h
theorem tq_go {x1 : Int32} {m s : sm_S} (hR : RX m s) (hI : zI m) (hJ : zI s) (_ : zC s) : TR (fun a b => a.1 = b.1) (fX11_go x1 m) (fX12_go x1 s) := by
  have h := hR.2.1
  have l0 := L0
  have e30 := h.corner
  have c30 : 0 ≤ (m.1 3 0).toInt ∧ (m.1 3 0).toInt ≤ 10 := hI.1 3 0
  have i0 : zI (sm_w1 s 72 0 (0 : Int32)) := zI.w hJ rfl (show 0 ≤ (0 : Int32).toInt ∧ (0 : Int32).toInt ≤ 1 by omega)
  have s3 : ((sm_w1 s 72 0 (0 : Int32)).1 72 3).toInt = (s.1 72 3).toInt := rfl
  obtain ⟨b, eb, -, -⟩ := zX12_go x1 s hJ
  unfold fX11_go
  refine tl_bd (zX2_hasCorner x1 m hI) (fun p hp => ?_)
  obtain ⟨-, -, hp⟩ := hp
  have eb2 := eb
  unfold fX12_go at eb2
  obtain ⟨q, eq, -, -, hq⟩ := zX12_isCorner x1 _ i0
  rw [eq, Option.bind_some] at eb2
  rw [eb]
  refine tl_eq (fun g => ?_) (fun g => ?_)
  · rw [if_pos (eqI.mpr (show q.toInt = (0 : Int32).toInt by omega))] at eb2
    obtain rfl := Option.some.inj eb2
    exact t_ret rfl
  · rw [if_neg (fun z => by have := eqI.mp z; omega)] at eb2
    refine tl_bd (zX6_beginAt x1 m (by omega) hI) (fun m4 _ => t_ret ?_)
    exact (v_go12 _ _ _ _ eb2).symm
theorem R_tour {m : sm_S} {r r' : Int32 × sm_S} (h : RR m) (F1 : Fr wX11_tour m r.2) (z1 : (r.2.1 1 1).toInt = 0) (F2 : Fr wX12_tour r.2 r'.2) (z2 : (r'.2.1 72 21).toInt = 0) : RR r'.2 := by
  have F : Fr (wX11_tour ++ wX12_tour) m r'.2 := Fr.trans (Fr.sub F1 (by decide +kernel)) F2 (by decide +kernel)
  have h11 : r'.2.1 1 1 = r.2.1 1 1 := F2 1 1 rfl
  refine ⟨⟨eqI.mpr (by rw [h11, z1, z2]), fun j hj => ?_⟩, h.2.1.fr F F (by decide +kernel), h.2.2.fr F F (by decide +kernel)⟩
  rw [h11, z1] at hj; omega
