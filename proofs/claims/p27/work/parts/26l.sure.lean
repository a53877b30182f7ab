/-! THE SURE FIELDS -/
theorem b_3 : ∀ i, i < 32 → bt 3 i = decide (i < 2) := by decide +kernel
theorem n_cw : ∀ f, f < 6 → (2 : Int32) * ((5 : Int32) - nI f) = nI (2 * (5 - f)) := by decide +kernel
theorem cww_bt (x : Int32) {f : Nat} (hf : f < 6) {i : Nat} (hi : i < 32) : bt (cww x (nI f)) i = (decide (i < 2) && bt x (2 * (5 - f) + i)) := by
  unfold cww
  rw [n_cw f hf, b_and, b_sshr (2 * (5 - f)) (by omega) x hi, b_3 i hi]
  by_cases q : i < 2
  · rw [if_pos (by omega), decide_eq_true q, Bool.and_true, Bool.true_and]
  · rw [decide_eq_false q, Bool.and_false, Bool.false_and]
theorem cww_0 (x : Int32) {f : Nat} (hf : f < 6) : cww x (nI f) = 0 ↔ ∀ i, i < 2 → bt x (2 * (5 - f) + i) = false := by
  constructor
  · intro q i hi
    have := cww_bt x hf (i := i) (by omega)
    rw [q, b_0, decide_eq_true hi, Bool.true_and] at this
    exact this.symm
  · intro q
    refine b_ext (fun i hi => ?_)
    rw [cww_bt x hf hi, b_0]
    by_cases g : i < 2
    · rw [q i g, Bool.and_false]
    · rw [decide_eq_false g]; rfl
theorem cww_eq (x y : Int32) {f : Nat} (hf : f < 6) : cww x (nI f) = cww y (nI f) ↔ ∀ i, i < 2 → bt x (2 * (5 - f) + i) = bt y (2 * (5 - f) + i) := by
  constructor
  · intro q i hi
    have a := cww_bt x hf (i := i) (by omega)
    have b := cww_bt y hf (i := i) (by omega)
    rw [decide_eq_true hi, Bool.true_and] at a b
    rw [← a, ← b, q]
  · intro q
    refine b_ext (fun i hi => ?_)
    rw [cww_bt x hf hi, cww_bt y hf hi]
    by_cases g : i < 2
    · rw [q i g]
    · rw [decide_eq_false g]; rfl
/-- the fields in which all ways are as the way L -/
def SBw (m : sm_S) (L : Nat) (x : Int32) : Prop := ∀ i : Nat, i < 32 → (bt x i = true ↔ (i < 6 ∧ ∀ w : Nat, w < 4096 → okB m w = true → cww (nI w) (nI i) = cww (nI L) (nI i)))
theorem SBw.eq {m : sm_S} {L : Nat} {x y : Int32} (h1 : SBw m L x) (h2 : SBw m L y) : x = y := by
  refine b_ext (fun i hi => ?_)
  have := (h1 i hi).trans (h2 i hi).symm
  cases hx : bt x i <;> cases hy : bt y i <;> simp_all
def LWy (m : sm_S) (L : Nat) : Prop := L < 4096 ∧ okB m L = true ∧ ∀ w : Nat, w < L → okB m w = false
theorem LWy.eq {m : sm_S} {L K : Nat} (h1 : LWy m L) (h2 : LWy m K) : L = K := by
  rcases Nat.lt_trichotomy L K with q | q | q
  · have := h2.2.2 L q; rw [h1.2.1] at this; cases this
  · exact q
  · have := h1.2.2 K q; rw [h2.2.1] at this; cases this
theorem v_diff (m0 : sm_S) : ∀ (n : Nat) (v1 v2 : Int32) (m : sm_S), (∀ w : Nat, w < 4096 → fnd m w = okB m0 w) → 0 ≤ v2.toInt → v2.toInt ≤ 4096 → 4096 - v2.toInt < (n : Int) → (∀ i : Nat, i < 32 → (bt v1 i = true ↔ ∃ w : Nat, (w : Int) < v2.toInt ∧ okB m0 w = true ∧ bt (nI w) i ≠ bt (m.1 51 1) i)) → Sf (fun r => ∀ i : Nat, i < 32 → (bt r i = true ↔ ∃ w : Nat, w < 4096 ∧ okB m0 w = true ∧ bt (nI w) i ≠ bt (m.1 51 1) i)) (fX0_differences_4 n v1 v2 m) := by
  have l0 := L0
  have l1 := L1
  have l4096 := L4096
  intro n
  induction n with
  | zero => intro v1 v2 m hf h0 h1 hn; have hz : ((0 : Nat) : Int) = 0 := rfl; omega
  | succ n ih =>
    intro v1 v2 m hf h0 h1 hn hb
    have hnn : ((n + 1 : Nat) : Int) = (n : Int) + 1 := by omega
    have et := a_tn h0
    unfold fX0_differences_4
    refine s_le (fun g => s_ret (fun i hi => ?_)) (fun g => ?_)
    · rw [hb i hi]
      exact ⟨fun ⟨w, a, b, c⟩ => ⟨w, by omega, b, c⟩, fun ⟨w, a, b, c⟩ => ⟨w, by omega, b, c⟩⟩
    · have e3 : (v2 + (1 : Int32)).toInt = v2.toInt + 1 := a_addl L1 (by omega) (by omega)
      have hn2 : nI v2.toNatClampNeg = v2 := (a_nI h0).symm
      rw [e_isFound h0 (by omega), Option.bind_some, hf _ (by omega)]
      cases hk : okB m0 v2.toNatClampNeg with
      | false =>
        rw [if_pos (show (if (false = true) then (1 : Int32) else 0) = 0 from rfl)]
        refine ih v1 (v2 + (1 : Int32)) m hf (by omega) (by omega) (by omega) (fun i hi => ?_)
        rw [hb i hi]
        constructor
        · rintro ⟨w, a, b, c⟩; exact ⟨w, by omega, b, c⟩
        · rintro ⟨w, a, b, c⟩
          refine ⟨w, ?_, b, c⟩
          by_cases q : w = v2.toNatClampNeg
          · subst q; rw [hk] at b; cases b
          · omega
      | true =>
        rw [if_neg (show ¬ ((if (true = true) then (1 : Int32) else 0) = 0) by decide)]
        refine ih _ (v2 + (1 : Int32)) m hf (by omega) (by omega) (by omega) (fun i hi => ?_)
        rw [b_or, b_xor, Bool.or_eq_true, hb i hi]
        constructor
        · rintro (⟨w, a, b, c⟩ | q)
          · exact ⟨w, by omega, b, c⟩
          · refine ⟨v2.toNatClampNeg, by omega, hk, ?_⟩
            rw [hn2]
            intro z; rw [z] at q; simp at q
        · rintro ⟨w, a, b, c⟩
          by_cases q : w = v2.toNatClampNeg
          · subst q
            rw [hn2] at c
            refine Or.inr ?_
            cases hx : bt v2 i <;> cases hy : bt (m.1 51 1) i <;> simp_all
          · exact Or.inl ⟨w, by omega, b, c⟩
theorem v_sure38 : ∀ (n : Nat) (v2 v3 v4 : Int32) (m : sm_S), zI m → 0 ≤ v4.toInt → v4.toInt ≤ 6 → 6 - v4.toInt < (n : Int) → (∀ i : Nat, i < 32 → (bt v3 i = true ↔ ((i : Int) < v4.toInt ∧ cww v2 (nI i) = 0))) → Sf (fun r => ∀ i : Nat, i < 32 → (bt r.1 i = true ↔ (i < 6 ∧ cww v2 (nI i) = 0))) (fX11_sure_38 n v2 v3 v4 m) := by
  have l0 := L0
  have l1 := L1
  have l6 := L6
  intro n
  induction n with
  | zero => intro v2 v3 v4 m hI h0 h1 hn; have hz : ((0 : Nat) : Int) = 0 := rfl; omega
  | succ n ih =>
    intro v2 v3 v4 m hI h0 h1 hn hb
    have hnn : ((n + 1 : Nat) : Int) = (n : Int) + 1 := by omega
    have et := a_tn h0
    unfold fX11_sure_38
    refine s_le (fun g => s_ret (fun i hi => ?_)) (fun g => ?_)
    · rw [hb i hi]
      exact ⟨fun ⟨a, b⟩ => ⟨by omega, b⟩, fun ⟨a, b⟩ => ⟨by omega, b⟩⟩
    · have e4 : (v4 + (1 : Int32)).toInt = v4.toInt + 1 := a_addl L1 (by omega) (by omega)
      have hn2 : nI v4.toNatClampNeg = v4 := (a_nI h0).symm
      have ec : ∀ (x y : Int32) (s : sm_S), fX0_cowsIn x y s = some (cww x y) := fun _ _ _ => rfl
      rw [ec, Option.bind_some]
      refine s_if (fun q => ?_) (fun q => ?_)
      · rw [ec, Option.bind_some]
        refine s_bd (zX5_add _ m hI) (fun m12 h12 => ?_)
        refine ih v2 _ (v4 + (1 : Int32)) m12 h12.2.1 (by omega) (by omega) (by omega) (fun i hi => ?_)
        rw [b_or, b_pow h0 (by omega) hi, Bool.or_eq_true, hb i hi, decide_eq_true_iff]
        constructor
        · rintro (⟨a, b⟩ | a)
          · exact ⟨by omega, b⟩
          · subst a; rw [hn2]; exact ⟨by omega, q⟩
        · rintro ⟨a, b⟩
          by_cases g2 : i = v4.toNatClampNeg
          · exact Or.inr g2
          · exact Or.inl ⟨by omega, b⟩
      · refine ih v2 v3 (v4 + (1 : Int32)) m hI (by omega) (by omega) (by omega) (fun i hi => ?_)
        rw [hb i hi]
        constructor
        · rintro ⟨a, b⟩; exact ⟨by omega, b⟩
        · rintro ⟨a, b⟩
          refine ⟨?_, b⟩
          by_cases g2 : i = v4.toNatClampNeg
          · subst g2; rw [hn2] at b; exact absurd b q
          · omega
theorem v_sure103 : ∀ (n : Nat) (v1 v2 v3 v4 : Int32) (s : sm_S), zI s → (s.1 72 1).toInt ≤ v4.toInt → 0 ≤ v4.toInt → v4.toInt ≤ 6 → 6 - v4.toInt < (n : Int) → (∀ i : Nat, i < 32 → (bt v3 i = true ↔ ((i : Int) < v4.toInt ∧ bt v2 i = false))) → Sf (fun r => ∀ i : Nat, i < 32 → (bt r.1 i = true ↔ (i < 6 ∧ bt v2 i = false))) (fX12_sure_103 n v1 v2 v3 v4 s) := by
  have l0 := L0
  have l1 := L1
  have l6 := L6
  intro n
  induction n with
  | zero => intro v1 v2 v3 v4 s hJ hr h0 h1 hn; have hz : ((0 : Nat) : Int) = 0 := rfl; omega
  | succ n ih =>
    intro v1 v2 v3 v4 s hJ hr h0 h1 hn hb
    have hnn : ((n + 1 : Nat) : Int) = (n : Int) + 1 := by omega
    have et := a_tn h0
    unfold fX12_sure_103
    refine s_le (fun g => s_ret (fun i hi => ?_)) (fun g => ?_)
    · rw [hb i hi]
      exact ⟨fun ⟨a, b⟩ => ⟨by omega, b⟩, fun ⟨a, b⟩ => ⟨by omega, b⟩⟩
    · have e4 : (v4 + (1 : Int32)).toInt = v4.toInt + 1 := a_addl L1 (by omega) (by omega)
      have hh := b_has (x := v2) h0 (show v4.toInt < 32 by omega)
      have ec : ∀ (x y : Int32) (s : sm_S), fX12_cowsOf x y s = some (cww x y) := fun _ _ _ => rfl
      unfold fX12_has
      by_cases q : ((v2 >>> (v4 &&& 31)) &&& (1 : Int32)) = (1 : Int32)
      · have hq := hh.mp q
        rw [if_pos q, Option.bind_some, if_neg (by decide)]
        refine ih v1 v2 v3 (v4 + (1 : Int32)) s hJ (by omega) (by omega) (by omega) (by omega) (fun i hi => ?_)
        rw [hb i hi]
        constructor
        · rintro ⟨a, b⟩; exact ⟨by omega, b⟩
        · rintro ⟨a, b⟩
          refine ⟨?_, b⟩
          by_cases g2 : i = v4.toNatClampNeg
          · subst g2; rw [hq] at b; cases b
          · omega
      · have hq : bt v2 v4.toNatClampNeg = false := by
          cases hb2 : bt v2 v4.toNatClampNeg with
          | false => rfl
          | true => exact absurd (hh.mpr hb2) q
        rw [if_neg q, Option.bind_some, if_pos rfl, ec, Option.bind_some]
        refine s_bd (zX12_enters _ s (by omega) hJ) (fun m6 h6 => ?_)
        obtain ⟨h6a, h6b, h6c⟩ := h6
        refine ih v1 v2 _ (v4 + (1 : Int32)) m6 h6b (by omega) (by omega) (by omega) (by omega) (fun i hi => ?_)
        rw [b_or, b_pow h0 (by omega) hi, Bool.or_eq_true, hb i hi, decide_eq_true_iff]
        constructor
        · rintro (⟨a, b⟩ | a)
          · exact ⟨by omega, b⟩
          · subst a; exact ⟨by omega, hq⟩
        · rintro ⟨a, b⟩
          by_cases g2 : i = v4.toNatClampNeg
          · exact Or.inr g2
          · exact Or.inl ⟨by omega, b⟩
theorem e_42 (k11 : Int32 → Int32 → Int32 → sm_S → Option (Int32 × sm_S)) (v1 v3 : Int32) (s : sm_S) : ∀ (n : Nat) (v2 v4 : Int32), 0 ≤ v4.toInt → v4.toInt ≤ 6 → 6 - v4.toInt < (n : Int) → ∃ u : Int32, (∀ i : Nat, i < 32 → (bt u i = true ↔ (bt v2 i = true ∨ (v4.toInt ≤ (i : Int) ∧ i < 6 ∧ cww v3 (nI i) ≠ cww v1 (nI i))))) ∧ fX12_sure_42 k11 n v1 v2 v3 v4 s = k11 v1 u (v3 + (1 : Int32)) s := by
  have l0 := L0
  have l1 := L1
  have l6 := L6
  intro n
  induction n with
  | zero => intro v2 v4 h0 h1 hn; have hz : ((0 : Nat) : Int) = 0 := rfl; omega
  | succ n ih =>
    intro v2 v4 h0 h1 hn
    have hnn : ((n + 1 : Nat) : Int) = (n : Int) + 1 := by omega
    have et := a_tn h0
    have ec : ∀ (x y : Int32) (s : sm_S), fX12_cowsOf x y s = some (cww x y) := fun _ _ _ => rfl
    by_cases g : (6 : Int32) ≤ v4
    · have g' := leI.mp g
      refine ⟨v2, fun i hi => ⟨Or.inl, fun q => ?_⟩, ?_⟩
      · rcases q with q | ⟨a, b, c⟩
        · exact q
        · omega
      · conv => lhs; unfold fX12_sure_42
        rw [if_pos g]
    · have g' := Int.not_le.mp (fun z => g (leI.mpr z))
      have e4 : (v4 + (1 : Int32)).toInt = v4.toInt + 1 := a_addl L1 (by omega) (by omega)
      have hn2 : nI v4.toNatClampNeg = v4 := (a_nI h0).symm
      by_cases q : cww v3 v4 = cww v1 v4
      · obtain ⟨u, hu, e⟩ := ih (v2 ||| (0 : Int32)) (v4 + (1 : Int32)) (by omega) (by omega) (by omega)
        refine ⟨u, fun i hi => ?_, ?_⟩
        · rw [hu i hi, b_or, b_0, Bool.or_false]
          constructor
          · rintro (a | ⟨a, b, c⟩)
            · exact Or.inl a
            · exact Or.inr ⟨by omega, b, c⟩
          · rintro (a | ⟨a, b, c⟩)
            · exact Or.inl a
            · refine Or.inr ⟨?_, b, c⟩
              by_cases g2 : i = v4.toNatClampNeg
              · subst g2; rw [hn2] at c; exact absurd q c
              · omega
        · rw [← e]
          conv => lhs; unfold fX12_sure_42
          rw [if_neg g, ec, Option.bind_some, ec, Option.bind_some, if_pos q]
      · obtain ⟨u, hu, e⟩ := ih (v2 ||| ((1 : Int32) <<< (v4 &&& 31))) (v4 + (1 : Int32)) (by omega) (by omega) (by omega)
        refine ⟨u, fun i hi => ?_, ?_⟩
        · rw [hu i hi, b_or, b_pow h0 (by omega) hi, Bool.or_eq_true, decide_eq_true_iff]
          constructor
          · rintro ((a | a) | ⟨a, b, c⟩)
            · exact Or.inl a
            · subst a; exact Or.inr ⟨by omega, by omega, by rw [hn2]; exact q⟩
            · exact Or.inr ⟨by omega, b, c⟩
          · rintro (a | ⟨a, b, c⟩)
            · exact Or.inl (Or.inl a)
            · by_cases g2 : i = v4.toNatClampNeg
              · exact Or.inl (Or.inr g2)
              · exact Or.inr ⟨by omega, b, c⟩
        · rw [← e]
          conv => lhs; unfold fX12_sure_42
          rw [if_neg g, ec, Option.bind_some, ec, Option.bind_some, if_neg q]
/-- the first way so far, and the fields unlike in it -/
def UN (m : sm_S) (v1 v2 : Int32) (v : Nat) : Prop := (v1.toInt < 0 ∧ v2 = 0 ∧ ∀ w : Nat, w < v → okB m w = false) ∨ (0 ≤ v1.toInt ∧ v1.toNatClampNeg < v ∧ okB m v1.toNatClampNeg = true ∧ (∀ w : Nat, w < v1.toNatClampNeg → okB m w = false) ∧ ∀ i : Nat, i < 32 → (bt v2 i = true ↔ (i < 6 ∧ ∃ w : Nat, w < v ∧ okB m w = true ∧ cww (nI w) (nI i) ≠ cww v1 (nI i))))
theorem v_sure11 (m s : sm_S) (hL : XL m s) (hE : XE m s) (hI : zI m) (hJ : zI s) : ∀ (n : Nat) (v1 v2 v3 : Int32), 0 ≤ v3.toInt → v3.toInt ≤ 4096 → 4096 - v3.toInt < (n : Int) → UN m v1 v2 v3.toNatClampNeg → Sf (fun r => ((∀ w : Nat, w < 4096 → okB m w = false) ∧ r.1 = 0) ∨ ∃ L : Nat, LWy m L ∧ SBw m L r.1) (fX12_sure_11 n v1 v2 v3 s) := by
  have l0 := L0
  have l1 := L1
  have l4096 := L4096
  have hfu := fuE
  intro n
  induction n with
  | zero => intro v1 v2 v3 h0 h1 hn; have hz : ((0 : Nat) : Int) = 0 := rfl; omega
  | succ n ih =>
    intro v1 v2 v3 h0 h1 hn hU
    have hnn : ((n + 1 : Nat) : Int) = (n : Int) + 1 := by omega
    have et := a_tn h0
    unfold fX12_sure_11
    refine s_le (fun g => ?_) (fun g => ?_)
    · have e : v3.toNatClampNeg = 4096 := by omega
      rw [e] at hU
      have i1 : zI (sm_w1 s 72 1 (0 : Int32)) := zI.w hJ rfl (show 0 ≤ (0 : Int32).toInt ∧ (0 : Int32).toInt ≤ 24 by omega)
      have e1 : ((sm_w1 s 72 1 (0 : Int32)).1 72 1).toInt = 0 := l0
      refine s_le (fun g1 => ?_) (fun g1 => ?_)
      · rcases hU with ⟨u1, -⟩ | ⟨u1, u2, u3, u4, u5⟩
        · omega
        · refine s_mono (v_sure103 sm_fu v1 v2 (0 : Int32) (0 : Int32) _ i1 (by omega) (by omega) (by omega) (by omega) (fun i hi => ?_)) (fun r hr => Or.inr ⟨v1.toNatClampNeg, ⟨u2, u3, u4⟩, fun i hi => ?_⟩)
          · rw [b_0]; exact ⟨fun z => (by cases z), fun z => by omega⟩
          · rw [hr i hi, ← a_nI u1]
            constructor
            · rintro ⟨a, b⟩
              refine ⟨a, fun w hw hk => ?_⟩
              by_cases q : cww (nI w) (nI i) = cww v1 (nI i)
              · exact q
              · have := (u5 i hi).mpr ⟨a, w, hw, hk, q⟩
                rw [b] at this; cases this
            · rintro ⟨a, b⟩
              refine ⟨a, ?_⟩
              cases hb : bt v2 i with
              | false => rfl
              | true =>
                obtain ⟨-, w, hw, hk, q⟩ := (u5 i hi).mp hb
                exact absurd (b w hw hk) q
      · rcases hU with ⟨u1, u2, u3⟩ | ⟨u1, -⟩
        · exact s_ret (Or.inl ⟨u3, rfl⟩)
        · omega
    · have e3 : (v3 + (1 : Int32)).toInt = v3.toInt + 1 := a_addl L1 (by omega) (by omega)
      have hs : (v3 + (1 : Int32)).toNatClampNeg = v3.toNatClampNeg + 1 := by
        have := a_tn (x := v3 + (1 : Int32)) (by omega)
        omega
      have hn2 : nI v3.toNatClampNeg = v3 := (a_nI h0).symm
      refine s_bd (s_wrongOf v3 hL hE hI) (fun x hx => ?_)
      have hz := hx.zero hI h0
      refine s_if (fun g8 => ?_) (fun g8 => ?_)
      · have yk := hz.mp g8
        refine s_le (fun g1 => ?_) (fun g1 => ?_)
        · rcases hU with ⟨u1, -⟩ | ⟨u1, u2, u3, u4, u5⟩
          · omega
          · obtain ⟨u, hu, e⟩ := e_42 (fX12_sure_11 n) v1 v3 s sm_fu v2 (0 : Int32) (by omega) (by omega) (by omega)
            rw [e]
            refine ih v1 u (v3 + (1 : Int32)) (by omega) (by omega) (by omega) (Or.inr ⟨u1, by omega, u3, u4, fun i hi => ?_⟩)
            rw [hu i hi, u5 i hi, hs]
            constructor
            · rintro (⟨a, w, b, c, d⟩ | ⟨a, b, c⟩)
              · exact ⟨a, w, by omega, c, d⟩
              · exact ⟨b, v3.toNatClampNeg, by omega, yk, by rw [hn2]; exact c⟩
            · rintro ⟨a, w, b, c, d⟩
              by_cases q : w = v3.toNatClampNeg
              · subst q; rw [hn2] at d; exact Or.inr ⟨by omega, a, d⟩
              · exact Or.inl ⟨a, w, by omega, c, d⟩
        · rcases hU with ⟨u1, u2, u3⟩ | ⟨u1, -⟩
          · obtain ⟨u, hu, e⟩ := e_42 (fX12_sure_11 n) v3 v3 s sm_fu v2 (0 : Int32) (by omega) (by omega) (by omega)
            rw [e]
            refine ih v3 u (v3 + (1 : Int32)) (by omega) (by omega) (by omega) (Or.inr ⟨h0, by omega, yk, u3, fun i hi => ?_⟩)
            rw [hu i hi, u2, b_0, hs]
            constructor
            · rintro (a | ⟨a, b, c⟩)
              · cases a
              · exact absurd rfl c
            · rintro ⟨a, w, b, c, d⟩
              by_cases q : w = v3.toNatClampNeg
              · subst q; rw [hn2] at d; exact absurd rfl d
              · have := u3 w (by omega); rw [c] at this; cases this
          · omega
      · have nk : okB m v3.toNatClampNeg = false := by
          cases hk : okB m v3.toNatClampNeg with
          | false => rfl
          | true => exact absurd (hz.mpr hk) g8
        refine ih v1 v2 (v3 + (1 : Int32)) (by omega) (by omega) (by omega) ?_
        rw [hs]
        rcases hU with ⟨u1, u2, u3⟩ | ⟨u1, u2, u3, u4, u5⟩
        · refine Or.inl ⟨u1, u2, fun w hw => ?_⟩
          by_cases q : w = v3.toNatClampNeg
          · subst q; exact nk
          · exact u3 w (by omega)
        · refine Or.inr ⟨u1, by omega, u3, u4, fun i hi => ?_⟩
          rw [u5 i hi]
          constructor
          · rintro ⟨a, w, b, c, d⟩; exact ⟨a, w, by omega, c, d⟩
          · rintro ⟨a, w, b, c, d⟩
            refine ⟨a, w, ?_, c, d⟩
            by_cases q : w = v3.toNatClampNeg
            · subst q; rw [nk] at c; cases c
            · omega
theorem cnt_0 {p : Nat → Bool} : ∀ {n : Nat}, cnt p n = 0 → ∀ w, w < n → p w = false
  | 0, _, w, hw => absurd hw (Nat.not_lt_zero _)
  | n + 1, h, w, hw => by
    have e : cnt p (n + 1) = cnt p n + (if p n = true then 1 else 0) := rfl
    rw [e] at h
    by_cases q : w = n
    · subst q
      cases hp : p w with
      | false => rfl
      | true => rw [hp, if_pos rfl] at h; omega
    · exact cnt_0 (n := n) (by omega) w (by omega)
theorem cnt_z {p : Nat → Bool} : ∀ {n : Nat}, (∀ w, w < n → p w = false) → cnt p n = 0
  | 0, _ => rfl
  | n + 1, h => by
    have e : cnt p (n + 1) = cnt p n + (if p n = true then 1 else 0) := rfl
    rw [e, h n (by omega), cnt_z (fun w hw => h w (by omega))]; rfl
theorem tq_sure {m s : sm_S} (hR : RX m s) (hI : zI m) (hJ : zI s) (_ : zC s) : TR (fun a b => a.1 = b.1) (fX11_sure m) (fX12_sure s) := by
  have l0 := L0
  have ln1 := Ln1
  have hfu := fuE
  have z0 : (0 : Int32).toNatClampNeg = 0 := by decide
  have i0 : zI (sm_w1 s 72 0 (0 : Int32)) := zI.w hJ rfl (show 0 ≤ (0 : Int32).toInt ∧ (0 : Int32).toInt ≤ 1 by omega)
  have hL : XL m (sm_w1 s 72 0 (0 : Int32)) := hR.2.1
  have hE : XE m (sm_w1 s 72 0 (0 : Int32)) := hR.2.2
  obtain ⟨b, eb, hb⟩ := v_sure11 m _ hL hE hI i0 sm_fu (-1 : Int32) (0 : Int32) (0 : Int32) (by omega) (by omega) (by omega) (Or.inl ⟨by omega, rfl, fun w hw => by rw [z0] at hw; omega⟩)
  unfold fX12_sure
  rw [eb]
  unfold fX11_sure
  refine tl_bd (s_findWays hI) (fun a ha => ?_)
  obtain ⟨a1, ⟨F, f1, f2, f3⟩, a3⟩ := ha
  unfold fX5_clear
  rw [Option.bind_some]
  have i4 : zI (sm_w1 a.2 14 1 (0 : Int32)) := zI.w a3 rfl (show 0 ≤ (0 : Int32).toInt ∧ (0 : Int32).toInt ≤ 14 by omega)
  refine tl_eq (fun g => t_ret ?_) (fun g => ?_)
  · have hz := cnt_0 (p := okB m) (n := 4096) (by omega)
    rcases hb with ⟨-, hb⟩ | ⟨L, hl, -⟩
    · exact hb.symm
    · have := hz L hl.1; rw [hl.2.1] at this; cases this
  · have c511 : 0 ≤ (a.2.1 51 1).toInt ∧ (a.2.1 51 1).toInt ≤ 4095 := a3.1 51 1
    have et := a_tn c511.1
    have hlw : LWy m (a.2.1 51 1).toNatClampNeg := by
      rcases f3 with f3 | ⟨q1, q2, q3⟩
      · have := cnt_z (p := okB m) (n := 4096) (fun w hw => f3 w (by omega) hw)
        omega
      · exact ⟨by omega, q2, fun w hw => q3 w (by omega) (by omega)⟩
    have hn2 : nI (a.2.1 51 1).toNatClampNeg = a.2.1 51 1 := (a_nI c511.1).symm
    have hf4 : ∀ w : Nat, w < 4096 → fnd (sm_w1 a.2 14 1 (0 : Int32)) w = okB m w := fun w hw => f1 w (by omega) hw
    unfold fX0_differences
    refine tl_bd (v_diff m sm_fu (0 : Int32) (0 : Int32) _ hf4 (by omega) (by omega) (by omega) (fun i hi => by rw [b_0]; exact ⟨fun z => (by cases z), fun ⟨w, hw, _⟩ => by omega⟩)) (fun d hd => ?_)
    obtain ⟨r, er, hr⟩ := v_sure38 sm_fu d (0 : Int32) (0 : Int32) _ i4 (by omega) (by omega) (by omega) (fun i hi => by rw [b_0]; exact ⟨fun z => (by cases z), fun ⟨z, _⟩ => by omega⟩)
    rw [er]
    refine t_ret ?_
    have hS : SBw m (a.2.1 51 1).toNatClampNeg r.1 := by
      intro i hi
      rw [hr i hi]
      have e51 : (sm_w1 a.2 14 1 (0 : Int32)).1 51 1 = a.2.1 51 1 := rfl
      rw [e51] at hd
      constructor
      · rintro ⟨h6, hc⟩
        refine ⟨h6, fun w hw hk => ?_⟩
        rw [hn2]
        refine (cww_eq _ _ h6).mpr (fun j hj => ?_)
        have q := (cww_0 d h6).mp hc j hj
        cases hx : bt (nI w) (2 * (5 - i) + j) with
        | false =>
          cases hy : bt (a.2.1 51 1) (2 * (5 - i) + j) with
          | false => rfl
          | true =>
            have := (hd (2 * (5 - i) + j) (by omega)).mpr ⟨w, hw, hk, by rw [hx, hy]; decide⟩
            rw [q] at this; cases this
        | true =>
          cases hy : bt (a.2.1 51 1) (2 * (5 - i) + j) with
          | true => rfl
          | false =>
            have := (hd (2 * (5 - i) + j) (by omega)).mpr ⟨w, hw, hk, by rw [hx, hy]; decide⟩
            rw [q] at this; cases this
      · rintro ⟨h6, hc⟩
        refine ⟨h6, (cww_0 d h6).mpr (fun j hj => ?_)⟩
        cases hx : bt d (2 * (5 - i) + j) with
        | false => rfl
        | true =>
          obtain ⟨w, hw, hk, hne⟩ := (hd (2 * (5 - i) + j) (by omega)).mp hx
          have q := hc w hw hk
          rw [hn2] at q
          exact absurd ((cww_eq _ _ h6).mp q j hj) hne
    rcases hb with ⟨hz, -⟩ | ⟨L, hl, hs⟩
    · have := hz _ hlw.1; rw [hlw.2.1] at this; cases this
    · obtain rfl := hl.eq hlw
      exact hS.eq hs
