/-! TRAIL, the walk -/
def bcOK (odd c : Nat) : Bool := match fJ6_bitCount_0f7a4 (nI odd) (fun _ _ => 0, fun _ _ => 0) with
  | some r => (decide (r = 2) && odd.testBit c) == (List.range 10).any (fun t => !decide (t = c) && decide (odd = 2 ^ c ^^^ 2 ^ t))
  | none => false
theorem bc_ok : ∀ odd, odd < 1024 → ∀ c, c < 10 → bcOK odd c = true := by decide +kernel
theorem bc_iff {x r : Int32} {m : sm_S} {c : Nat} (hx : 0 ≤ x.toInt ∧ x.toInt ≤ 1023) (hc : c < 10) (h : fJ6_bitCount_0f7a4 x m = some r) : (r = 2 ∧ bt x c = true) ↔ ∃ t, t < 10 ∧ t ≠ c ∧ ∀ v, v < 32 → bt x v = (decide (v = c) ^^ decide (v = t)) := by
  have e := a_tn hx.1
  have ex := a_nI hx.1
  have q := bc_ok x.toNatClampNeg (by omega) c hc
  unfold bcOK at q
  rw [← ex, show fJ6_bitCount_0f7a4 x (fun _ _ => 0, fun _ _ => 0) = fJ6_bitCount_0f7a4 x m from rfl, h] at q
  have q2 : (decide (r = 2) && x.toNatClampNeg.testBit c) = (List.range 10).any (fun t => !decide (t = c) && decide (x.toNatClampNeg = 2 ^ c ^^^ 2 ^ t)) := eq_of_beq q
  have bits : ∀ v, v < 32 → bt x v = x.toNatClampNeg.testBit v := fun v hv => by
    have := b_nat x.toNatClampNeg v hv
    rwa [← ex] at this
  have pw : ∀ t v : Nat, (2 ^ c ^^^ 2 ^ t).testBit v = (decide (v = c) ^^ decide (v = t)) := fun t v => by
    rw [Nat.testBit_xor, Nat.testBit_two_pow, Nat.testBit_two_pow, show decide (c = v) = decide (v = c) from decide_eq_decide.mpr ⟨Eq.symm, Eq.symm⟩, show decide (t = v) = decide (v = t) from decide_eq_decide.mpr ⟨Eq.symm, Eq.symm⟩]
  constructor
  · rintro ⟨h1, h2⟩
    rw [decide_eq_true h1, ← bits c (by omega), h2] at q2
    obtain ⟨t, ht, hq⟩ := List.any_eq_true.mp q2.symm
    have ht2 := List.mem_range.mp ht
    have hq1 := (Bool.and_eq_true_iff.mp hq).1
    have hq2 := of_decide_eq_true (Bool.and_eq_true_iff.mp hq).2
    have hne : t ≠ c := fun z => by
      rw [decide_eq_true z] at hq1
      cases hq1
    refine ⟨t, ht2, hne, fun v hv => ?_⟩
    rw [bits v hv, hq2, pw]
  · rintro ⟨t, ht, hne, hb⟩
    have hx2 : x.toNatClampNeg = 2 ^ c ^^^ 2 ^ t := by
      refine Nat.eq_of_testBit_eq (fun i => ?_)
      rw [pw]
      rcases Nat.lt_or_ge i 32 with hi | hi
      · rw [← bits i hi]; exact hb i hi
      · rw [decide_eq_false (show ¬ i = c by omega), decide_eq_false (show ¬ i = t by omega)]
        exact Nat.testBit_lt_two_pow (Nat.lt_of_lt_of_le (show x.toNatClampNeg < 2 ^ 32 by omega) (Nat.pow_le_pow_right (by decide) hi))
    have : (List.range 10).any (fun t => !decide (t = c) && decide (x.toNatClampNeg = 2 ^ c ^^^ 2 ^ t)) = true := List.any_eq_true.mpr ⟨t, List.mem_range.mpr ht, by rw [decide_eq_false hne, decide_eq_true hx2]; rfl⟩
    rw [this] at q2
    exact ⟨of_decide_eq_true (Bool.and_eq_true_iff.mp q2).1, by rw [bits c (by omega)]; exact (Bool.and_eq_true_iff.mp q2).2⟩
def tGE (m : sm_S) (X c : Int32) : Prop := GE (ta m) (tb m) (nH m) (bt X) c.toNatClampNeg
theorem t_same {m m' : sm_S} (h76 : ∀ j, m'.1 76 j = m.1 76 j) (h77 : ∀ j, m'.1 77 j = m.1 77 j) (h6 : m'.1 72 6 = m.1 72 6) : ta m' = ta m ∧ tb m' = tb m ∧ nH m' = nH m := by
  refine ⟨funext (fun j => ?_), funext (fun j => ?_), ?_⟩
  · unfold ta; rw [h76]
  · unfold tb; rw [h77]
  · unfold nH; rw [h6]
theorem t_par10 {m : sm_S} {X : Int32} (hI : zI m) (hC : zC m) {v : Nat} (hv : 10 ≤ v) : par (ta m) (tb m) (bt X) v (nH m) = false := by
  obtain ⟨-, -, -, bC⟩ := t_n hI
  exact par_hi (N := 10) (fun h hh _ => by
    have := t_ends hI hC hh
    omega) hv
theorem zct (X c : Int32) (m : sm_S) (hX : 0 ≤ X.toInt ∧ X.toInt ≤ 16383) (hc : gC m c) (hs : ∀ i, i < 32 → bt X i = true → i < nH m) (hI : zI m) (hC : zC m) : Sf (fun r => zI r.2 ∧ Fr wX12_canTrail m r.2 ∧ (r.1.toInt ≠ 0 ↔ (X = 0 ∨ tGE m X c))) (fX12_canTrail X c m) := by
  have l0 := L0
  have l1 := L1
  have l2 := L2
  have hcu := hc
  unfold gC at hcu
  have tc := a_tn hcu.1
  obtain ⟨eH, eC, bH, bC⟩ := t_n hI
  unfold fX12_canTrail
  refine s_if (fun h => s_ret ⟨hI, Fr.refl, ⟨fun _ => Or.inl h, fun _ => by show (1 : Int32).toInt ≠ 0; omega⟩⟩) (fun hX0 => ?_)
  refine s_bd (zpt X m hX hI hC) (fun m2 h2 => ?_)
  obtain ⟨i2, f2, P2⟩ := h2
  have C2 := zC.fr hC f2 rfl
  obtain ⟨s1, s2, s3⟩ := t_same (m := m) (m' := m2) (fun j => f2 76 j rfl) (fun j => f2 77 j rfl) (f2 72 6 rfl)
  have s4 : nC m2 = nC m := by unfold nC; rw [f2 72 3 rfl]
  have F2 : Fr wX12_canTrail m m2 := Fr.trans Fr.refl f2 rfl
  have hx : 0 ≤ c.toInt ∧ c.toInt < (10 : Int) := by omega
  have hcn : c.toNatClampNeg < nC m2 := by omega
  refine s_ix hx (s_bd (zpo (m2.1 94 c.toNatClampNeg) X m2 hX i2 C2) (fun r5 h5 => ?_))
  have conn : r5 = X ↔ ∀ h, h < nH m2 → bt X h = true → cn (ta m2) (tb m2) (nH m2) (bt X) c.toNatClampNeg (ta m2 h) := by
    have lab : ∀ h, h < nH m2 → (tl m2 (ta m2 h) = (m2.1 94 c.toNatClampNeg).toInt ↔ cn (ta m2) (tb m2) (nH m2) (bt X) c.toNatClampNeg (ta m2 h)) := fun h hh => by
      have e := t_ends i2 C2 hh
      exact ⟨fun q => ((P2 _ _ e.2.2.1 hcn).mp q).symm, fun q => (P2 _ _ e.2.2.1 hcn).mpr q.symm⟩
    constructor
    · intro e h hh hb
      have q := h5 h (by omega)
      rw [e, hb] at q
      exact (lab h hh).mp (of_decide_eq_true (Bool.and_eq_true_iff.mp (Bool.and_eq_true_iff.mp q.symm).2).2)
    · intro q
      refine b_ext (fun i hi => ?_)
      rw [h5 i hi]
      cases hb : bt X i with
      | false => rw [Bool.false_and, Bool.and_false]
      | true =>
        have hn : i < nH m2 := by rw [s3]; exact hs i hi hb
        rw [decide_eq_true hn, decide_eq_true ((lab i hn).mpr (q i hn hb))]; rfl
  have tg : tGE m X c ↔ GE (ta m2) (tb m2) (nH m2) (bt X) c.toNatClampNeg := by
    unfold tGE
    rw [s1, s2, s3]
  refine s_if (fun h6 => ?_) (fun h6 => ?_)
  · have hA := conn.mp h6
    refine s_bd (zod X m2 hX i2 C2) (fun r7 h7 => ?_)
    obtain ⟨b7, p7⟩ := h7
    refine s_if (fun h8 => ?_) (fun h8 => ?_)
    · refine s_ret ⟨i2, F2, ⟨fun _ => Or.inr (tg.mpr ⟨hA, Or.inl (fun v => ?_)⟩), fun _ => by show (1 : Int32).toInt ≠ 0; omega⟩⟩
      rcases Nat.lt_or_ge v 10 with hv | hv
      · rw [← p7 v (by omega), h8, b_0]
      · exact t_par10 i2 C2 hv
    · refine s_bd (s_self (zJ6_bitCount_0f7a4 r7 m2 (by omega) i2)) (fun r9 h9 => ?_)
      have bi := bc_iff (x := r7) (c := c.toNatClampNeg) b7 (by omega) h9.2
      have godd : tGE m X c ↔ (r9 = 2 ∧ bt r7 c.toNatClampNeg = true) := by
        rw [tg, bi]
        constructor
        · rintro ⟨-, q | ⟨t, ht, q⟩⟩
          · exfalso
            apply h8
            refine b_ext (fun i hi => ?_)
            rw [p7 i hi, q i, b_0]
          · have ht10 : t < 10 := by
              refine Classical.byContradiction (fun z => ?_)
              have e := t_par10 (X := X) i2 C2 (v := t) (by omega)
              rw [q t, decide_eq_false ht, decide_eq_true rfl] at e
              cases e
            exact ⟨t, ht10, ht, fun v hv => by rw [p7 v hv]; exact q v⟩
        · rintro ⟨t, ht, hne, q⟩
          refine ⟨hA, Or.inr ⟨t, hne, fun v => ?_⟩⟩
          rcases Nat.lt_or_ge v 10 with hv | hv
          · rw [← p7 v (by omega)]; exact q v (by omega)
          · rw [t_par10 i2 C2 hv, decide_eq_false (show ¬ v = c.toNatClampNeg by omega), decide_eq_false (show ¬ v = t by omega)]; rfl
      refine s_if (fun h10 => ?_) (fun h10 => ?_)
      · refine s_bd (zX12_has2 r7 c m2 (by omega)) (fun r11 h11 => ?_)
        refine s_eq (fun h12 => ?_) (fun h12 => ?_)
        · refine s_ret ⟨i2, F2, ⟨fun q => absurd l0 q, fun q => ?_⟩⟩
          rcases q with q | q
          · exact absurd q hX0
          · have := (godd.mp q).2
            rw [has_f h11 (by omega)] at this; cases this
        · exact s_ret ⟨i2, F2, ⟨fun _ => Or.inr (godd.mpr ⟨h10, has_t h11 (by omega)⟩), fun _ => by show (1 : Int32).toInt ≠ 0; omega⟩⟩
      · refine s_ret ⟨i2, F2, ⟨fun q => absurd l0 q, fun q => ?_⟩⟩
        rcases q with q | q
        · exact absurd q hX0
        · exact absurd (godd.mp q).1 h10
  · refine s_ret ⟨i2, F2, ⟨fun q => absurd l0 q, fun q => ?_⟩⟩
    rcases q with q | q
    · exact absurd q hX0
    · exact absurd (conn.mpr (tg.mp q).1) h6
def tJ (m : sm_S) (X c : Int32) : Prop := gC m c ∧ (∀ i, i < 32 → bt X i = true → i < nH m) ∧ (X = 0 ∨ tGE m X c) ∧ (m.1 72 1).toInt + (p14 X : Int) ≤ 14
theorem bt_del {X h : Int32} (h0 : 0 ≤ h.toInt) (h1 : h.toInt < 32) : bt (gdel X h) = rm (bt X) h.toNatClampNeg := by
  have e := a_tn h0
  funext i
  rcases Nat.lt_or_ge i 32 with hi | hi
  · exact b_del h0 h1 hi
  · unfold rm
    rw [b_big hi, b_big hi]; rfl
theorem zen {m : sm_S} {v5 v3 : Int32} (hI : zI m) (hC : zC m) (hh : gH m v5) (hc : gC m v3) : Sf (fun r => (r.toInt = 0 ∧ ¬ (ta m v5.toNatClampNeg = v3.toNatClampNeg ∨ tb m v5.toNatClampNeg = v3.toNatClampNeg)) ∨ (r.toInt = 1 ∧ (ta m v5.toNatClampNeg = v3.toNatClampNeg ∨ tb m v5.toNatClampNeg = v3.toNatClampNeg))) (fX12_isEnd v5 v3 m) ∧ ∃ e, fX12_endOf v5 v3 m = some e ∧ gC m e ∧ ((ta m v5.toNatClampNeg = v3.toNatClampNeg ∨ tb m v5.toNatClampNeg = v3.toNatClampNeg) → e.toNatClampNeg = oe (ta m) (tb m) v5.toNatClampNeg v3.toNatClampNeg) := by
  have l0 := L0
  have l1 := L1
  obtain ⟨eH, eC, bH, bC⟩ := t_n hI
  have hhu := hh
  unfold gH at hhu
  have hcu := hc
  unfold gC at hcu
  have t5 := a_tn hhu.1
  have t3 := a_tn hcu.1
  have x14 : 0 ≤ v5.toInt ∧ v5.toInt < (14 : Int) := by omega
  obtain ⟨a1, b1, a2, b2, ab⟩ := t_ends hI hC (show v5.toNatClampNeg < nH m by omega)
  constructor
  · unfold fX12_isEnd
    refine s_ix x14 (s_eq (fun q => s_ret (Or.inr ⟨l1, Or.inl (by omega)⟩)) (fun q => s_ix x14 (s_eq (fun q2 => s_ret (Or.inr ⟨l1, Or.inr (by omega)⟩)) (fun q2 => s_ret (Or.inl ⟨l0, fun z => by omega⟩)))))
  · have key : Sf (fun e => gC m e ∧ ((ta m v5.toNatClampNeg = v3.toNatClampNeg ∨ tb m v5.toNatClampNeg = v3.toNatClampNeg) → e.toNatClampNeg = oe (ta m) (tb m) v5.toNatClampNeg v3.toNatClampNeg)) (fX12_endOf v5 v3 m) := by
      unfold fX12_endOf
      refine s_ix x14 (s_eq (fun q => s_ix x14 (s_ret ⟨⟨by omega, by omega⟩, fun _ => ?_⟩)) (fun q => s_ix x14 (s_ret ⟨⟨by omega, by omega⟩, fun _ => ?_⟩)))
      · unfold oe
        rw [if_pos (show ta m v5.toNatClampNeg = v3.toNatClampNeg by omega)]; rfl
      · unfold oe
        rw [if_neg (show ¬ ta m v5.toNatClampNeg = v3.toNatClampNeg by omega)]; rfl
    obtain ⟨e, he, hq⟩ := key
    exact ⟨e, he, hq⟩
theorem zt_49 (m0 : sm_S) (k42 : Int32 → Int32 → Int32 → sm_S → Option (Int32 × sm_S)) (N42 : Nat) (hk : ∀ (v2 v3 v4 : Int32) (m : sm_S), (0 ≤ v2.toInt ∧ v2.toInt ≤ 16383 ∧ (p14 v2 : Int) < (N42 : Int)) → tJ m v2 v3 → zI m → zC m → Fr wX12_trail m0 m → Sf (fun r => True ∧ zI r.2 ∧ Fr wX12_trail m0 r.2) (k42 v2 v3 v4 m)) : ∀ (n : Nat) (v2 v3 v4 v5 : Int32) (m : sm_S), (0 ≤ v2.toInt ∧ v2.toInt ≤ 16383 ∧ 0 ≤ v5.toInt ∧ v5.toInt ≤ 14 ∧ 14 - v5.toInt < (n : Int) ∧ (p14 v2 : Int) ≤ (N42 : Int)) → tJ m v2 v3 → (∃ h : Nat, h < nH m ∧ v5.toInt ≤ (h : Int) ∧ bt v2 h = true ∧ (ta m h = v3.toNatClampNeg ∨ tb m h = v3.toNatClampNeg) ∧ GE (ta m) (tb m) (nH m) (rm (bt v2) h) (oe (ta m) (tb m) h v3.toNatClampNeg)) → zI m → zC m → Fr wX12_trail m0 m → Sf (fun r => True ∧ zI r.2 ∧ Fr wX12_trail m0 r.2) (fX12_trail_49 k42 n v2 v3 v4 v5 m) := by
  intro n
  induction n with
  | zero =>
    intro v2 v3 v4 v5 m hp hJ hE hI hC hF
    omega
  | succ n ih =>
    intro v2 v3 v4 v5 m hp hJ hE hI hC hF
    have hnn : ((n + 1 : Nat) : Int) = (n : Int) + 1 := by omega
    have l0 := L0
    obtain ⟨eH, eC, bH, bC⟩ := t_n hI
    obtain ⟨h, hn, hl, hb, hc, hg⟩ := hE
    have t5 := a_tn (x := v5) (by omega)
    have e1 : (v5 + (1 : Int32)).toInt = v5.toInt + 1 := a_addl L1 (by omega) (by omega)
    have h5 : gH m v5 := ⟨by omega, by omega⟩
    have hJ2 := hJ
    obtain ⟨j1, j2, j3, j4⟩ := hJ2
    unfold fX12_trail_49
    refine s_bd (zX12_has2 v2 v5 m (by omega)) (fun r8 h8 => ?_)
    refine s_eq (fun h9 => ?_) (fun h9 => ?_)
    · refine ih v2 v3 v4 (v5 + (1 : Int32)) m (by omega) hJ ⟨h, hn, ?_, hb, hc, hg⟩ hI hC hF
      by_cases e : h = v5.toNatClampNeg
      · rw [e, has_f h8 (by omega)] at hb; cases hb
      · omega
    · have hb5 := has_t h8 (by omega)
      obtain ⟨ze, e, he, hge, hoe⟩ := zen hI hC h5 j1
      refine s_bd ze (fun r10 h10 => ?_)
      refine s_eq (fun h11 => ?_) (fun h11 => ?_)
      · refine ih v2 v3 v4 (v5 + (1 : Int32)) m (by omega) hJ ⟨h, hn, ?_, hb, hc, hg⟩ hI hC hF
        by_cases e : h = v5.toNatClampNeg
        · rw [e] at hc
          rcases h10 with q | q
          · exact absurd hc q.2
          · omega
        · omega
      · have hat : ta m v5.toNatClampNeg = v3.toNatClampNeg ∨ tb m v5.toNatClampNeg = v3.toNatClampNeg := by
          rcases h10 with q | q
          · omega
          · exact q.2
        rw [he, Option.bind_some]
        have dl := gdel_lt (X := v2) (h := v5) hp.1 (by omega) (by omega) hb5
        have bd := bt_del (X := v2) (h := v5) (by omega) (by omega)
        have sub : ∀ i, i < 32 → bt (gdel v2 v5) i = true → i < nH m := fun i hi hbi => by
          rw [bd] at hbi
          exact j2 i hi (rm_t.mp hbi).1
        refine s_bd (zct (gdel v2 v5) e m (by omega) hge sub hI hC) (fun r14 h14 => ?_)
        obtain ⟨i14, f14, q14⟩ := h14
        obtain ⟨s1, s2, s3⟩ := t_same (m := m) (m' := r14.2) (fun j => f14 76 j rfl) (fun j => f14 77 j rfl) (f14 72 6 rfl)
        have C14 := zC.fr hC f14 rfl
        have F14 : Fr wX12_trail m0 r14.2 := Fr.trans hF f14 rfl
        have t3 : r14.2.1 72 3 = m.1 72 3 := f14 72 3 rfl
        have t1 : r14.2.1 72 1 = m.1 72 1 := f14 72 1 rfl
        refine s_eq (fun h15 => ?_) (fun h15 => ?_)
        · refine ih v2 v3 v4 (v5 + (1 : Int32)) r14.2 (by omega) ⟨by unfold gC; rw [t3]; exact j1, by rw [s3]; exact j2, ?_, by rw [t1]; exact j4⟩ ⟨h, by rw [s3]; exact hn, ?_, hb, by rw [s1, s2]; exact hc, by rw [s1, s2, s3]; exact hg⟩ i14 C14 F14
          · unfold tGE; rw [s1, s2, s3]; exact j3
          · by_cases e2 : h = v5.toNatClampNeg
            · exfalso
              have : r14.1.toInt ≠ 0 := q14.mpr (Or.inr (by
                unfold tGE
                rw [bd, hoe hat, ← e2]; exact hg))
              omega
            · omega
        · have dp : p14 (gdel v2 v5) + 1 = p14 v2 := cnt_del v5.toNatClampNeg (by omega) hb5 (fun k hk2 => b_del (by omega) (by omega) (by omega))
          have br : 0 ≤ (m.1 72 1).toInt ∧ (m.1 72 1).toInt ≤ 24 := hI.1 72 1
          refine s_bd (zX12_enters v5 r14.2 (by rw [t1]; omega) i14) (fun m16 h16 => ?_)
          obtain ⟨p16, i16, f16⟩ := h16
          have C16 := zC.fr C14 f16 rfl
          have F16 : Fr wX12_trail m0 m16 := Fr.trans F14 f16 rfl
          have u6 : m16.1 72 6 = m.1 72 6 := (f16 72 6 rfl).trans (f14 72 6 rfl)
          have u3 : m16.1 72 3 = m.1 72 3 := (f16 72 3 rfl).trans t3
          have u76 : ∀ j, m16.1 76 j = m.1 76 j := fun j => (f16 76 j rfl).trans (f14 76 j rfl)
          have u77 : ∀ j, m16.1 77 j = m.1 77 j := fun j => (f16 77 j rfl).trans (f14 77 j rfl)
          obtain ⟨w1, w2, w3⟩ := t_same (m := m) (m' := m16) u76 u77 u6
          have j1u : 0 ≤ v3.toInt ∧ v3.toInt < (m.1 72 3).toInt := j1
          have h5u : 0 ≤ v5.toInt ∧ v5.toInt < (m.1 72 6).toInt := h5
          refine s_bd (zX12_minutesFrom v5 v3 m16 (by rw [u6]; omega) i16) (fun r18 _ => ?_)
          have e2 : fX12_endOf v5 v3 m16 = some e := by
            obtain ⟨-, e', he', -, -⟩ := zen i16 C16 (by unfold gH; rw [u6]; exact h5) (show gC m16 v3 by unfold gC; rw [u3]; exact j1)
            have q : fX12_endOf v5 v3 m16 = fX12_endOf v5 v3 m := by unfold fX12_endOf; rw [u76, u77]
            rw [q]; exact he
          rw [e2, Option.bind_some]
          have hG := q14.mp (by omega)
          refine hk (gdel v2 v5) e _ m16 (by omega) ⟨by unfold gC; rw [u3]; exact hge, by rw [w3]; exact sub, ?_, ?_⟩ i16 C16 F16
          · unfold tGE; rw [w1, w2, w3]; exact hG
          · rw [t1] at p16; omega
theorem zt_42 (m0 : sm_S) : ∀ (n : Nat) (v2 v3 v4 : Int32) (m : sm_S), (0 ≤ v2.toInt ∧ v2.toInt ≤ 16383 ∧ (p14 v2 : Int) < (n : Int)) → tJ m v2 v3 → zI m → zC m → Fr wX12_trail m0 m → Sf (fun r => True ∧ zI r.2 ∧ Fr wX12_trail m0 r.2) (fX12_trail_42 n v2 v3 v4 m) := by
  intro n
  induction n with
  | zero => intro v2 v3 v4 m hp hJ hI hC hF; omega
  | succ n ih =>
    intro v2 v3 v4 m hp hJ hI hC hF
    have hnn : ((n + 1 : Nat) : Int) = (n : Int) + 1 := by omega
    have hfu := fuE
    have l0 := L0
    obtain ⟨eH, eC, bH, bC⟩ := t_n hI
    unfold fX12_trail_42
    refine s_if (fun _ => s_ret ⟨trivial, hI, hF⟩) (fun h1 => ?_)
    refine zt_49 m0 (fX12_trail_42 n) n ih sm_fu v2 v3 v4 (0 : Int32) m (by omega) hJ ?_ hI hC hF
    obtain ⟨j1, j2, j3, j4⟩ := hJ
    have j1u : 0 ≤ v3.toInt ∧ v3.toInt < (m.1 72 3).toInt := j1
    have t3 := a_tn j1u.1
    have hG : tGE m v2 v3 := j3.resolve_left h1
    have ex : ∃ k, k < nH m ∧ bt v2 k = true := by
      refine Classical.byContradiction (fun hno => h1 (b_ext (fun i hi => ?_)))
      rw [b_0]
      cases hb : bt v2 i with
      | false => rfl
      | true => exact absurd ⟨i, j2 i hi hb, hb⟩ hno
    obtain ⟨h, q1, q2, q3, q4⟩ := fleury (N := 10) (fun k hk _ => by
      have := t_ends hI hC hk
      omega) (by omega) (fun k hk _ => (t_ends hI hC hk).2.2.2.2) hG ex
    exact ⟨h, q1, by omega, q2, q3, q4⟩
theorem zX12_trail (x1 : Int32) (m : sm_S) (hI : zI m) (hC : zC m) : Sf (fun r => (True) ∧ zI r.2 ∧ Fr wX12_trail m r.2) (fX12_trail x1 m) := by
  have hfu := fuE
  have l0 := L0
  have i1 : zI (sm_w1 m 72 0 (0 : Int32)) := zI.w hI rfl (show 0 ≤ (0 : Int32).toInt ∧ (0 : Int32).toInt ≤ 1 by omega)
  have f1 : Fr wX12_trail m (sm_w1 m 72 0 (0 : Int32)) := Fr.w Fr.refl rfl
  have C1 : zC (sm_w1 m 72 0 (0 : Int32)) := ⟨fun j hj => hC.1 j hj, fun i q1 q2 => hC.2 i q1 q2⟩
  obtain ⟨eH, eC, bH, bC⟩ := t_n hI
  unfold fX12_trail
  refine s_bd (zX12_isCorner x1 _ i1) (fun r2 h2 => ?_)
  refine s_eq (fun h3 => s_ret ⟨trivial, i1, f1⟩) (fun h3 => ?_)
  have hc1 : gC (sm_w1 m 72 0 (0 : Int32)) x1 := by
    have e3 : ((sm_w1 m 72 0 (0 : Int32)).1 72 3).toInt = (m.1 72 3).toInt := rfl
    unfold gC
    omega
  refine s_bd (zall _ i1) (fun r4 h4 => ?_)
  have h4' : r4.toInt = ((2 ^ nH m : Nat) : Int) - 1 := h4
  have p1 : 2 ^ nH m ≤ 2 ^ 14 := Nat.pow_le_pow_right (by decide) bH
  have p2 : 0 < 2 ^ nH m := Nat.two_pow_pos _
  have sub : ∀ i, i < 32 → bt r4 i = true → i < nH (sm_w1 m 72 0 (0 : Int32)) := fun i hi hb => by
    refine Classical.byContradiction (fun q => ?_)
    have q2 : nH m ≤ i := Nat.le_of_not_lt q
    rw [b_hi (k := nH m) (by omega) (by omega) q2] at hb
    cases hb
  refine s_bd (zct r4 x1 _ (by omega) hc1 sub i1 C1) (fun r6 h6 => ?_)
  obtain ⟨i6, f6, q6⟩ := h6
  have F6 : Fr wX12_trail m r6.2 := Fr.trans f1 f6 rfl
  have C6 := zC.fr C1 f6 rfl
  refine s_eq (fun h7 => s_ret ⟨trivial, i6, F6⟩) (fun h7 => ?_)
  obtain ⟨s1, s2, s3⟩ := t_same (m := sm_w1 m 72 0 (0 : Int32)) (m' := r6.2) (fun j => f6 76 j rfl) (fun j => f6 77 j rfl) (f6 72 6 rfl)
  have f7 : Fr [(72, 1)] r6.2 (sm_w1 r6.2 72 1 (0 : Int32)) := Fr.w Fr.refl rfl
  have t3 : r6.2.1 72 3 = (sm_w1 m 72 0 (0 : Int32)).1 72 3 := f6 72 3 rfl
  have pl : p14 r4 ≤ 14 := cnt_le _ _
  refine zt_42 m sm_fu r4 x1 (0 : Int32) _ (by omega) ⟨?_, ?_, ?_, ?_⟩ (zI.w i6 rfl (show 0 ≤ (0 : Int32).toInt ∧ (0 : Int32).toInt ≤ 24 by omega)) (zC.fr C6 f7 rfl) (Fr.w F6 rfl)
  · show 0 ≤ x1.toInt ∧ x1.toInt < (r6.2.1 72 3).toInt
    rw [t3]; exact hc1
  · show ∀ i, i < 32 → bt r4 i = true → i < nH r6.2
    rw [s3]; exact sub
  · show r4 = 0 ∨ GE (ta r6.2) (tb r6.2) (nH r6.2) (bt r4) x1.toNatClampNeg
    rw [s1, s2, s3]; exact q6.mp (by omega)
  · show (0 : Int32).toInt + (p14 r4 : Int) ≤ 14
    omega
