/-! THE GRAPH in the class: odd corners, what hangs together -/
theorem e_ends {m s : sm_S} (hL : XL m s) (hI : zI m) (hJ : zI s) (hC : zC s) {h : Int32} (h0 : 0 ≤ h.toInt) (h1 : h.toInt < (m.1 3 1).toInt) : ∃ e, fX2_endsOf h m = some e ∧ (∀ i : Nat, i < 32 → bt e i = (decide (ta s h.toNatClampNeg = i) || decide (tb s h.toNatClampNeg = i))) ∧ ta s h.toNatClampNeg < 10 ∧ tb s h.toNatClampNeg < 10 ∧ ta s h.toNatClampNeg ≠ tb s h.toNatClampNeg := by
  have c31 : 0 ≤ (m.1 3 1).toInt ∧ (m.1 3 1).toInt ≤ 14 := hI.1 3 1
  have e31 := hL.hedge
  have et := a_tn h0
  obtain ⟨eH, eC, bH, bC⟩ := t_n hJ
  obtain ⟨a1, b1, a2, b2, ab⟩ := t_ends hJ hC (h := h.toNatClampNeg) (by omega)
  obtain ⟨q1, q2, -⟩ := hL.row h0 h1
  have hx : 0 ≤ h.toInt ∧ h.toInt < ((14 : Nat) : Int) := by omega
  have ea : ta s h.toNatClampNeg = (s.1 76 h.toNatClampNeg).toNatClampNeg := rfl
  have eb : tb s h.toNatClampNeg = (s.1 77 h.toNatClampNeg).toNatClampNeg := rfl
  unfold fX2_endsOf
  rw [if_pos (ix_in hx), if_pos (ix_in hx)]
  refine ⟨_, rfl, fun i hi => ?_, by omega, by omega, ab⟩
  rw [q1, q2, b_or, b_pow (by omega) (by omega) hi, b_pow (by omega) (by omega) hi]
  congr 1
  · exact decide_eq_decide.mpr ⟨fun z => z.symm, fun z => z.symm⟩
  · exact decide_eq_decide.mpr ⟨fun z => z.symm, fun z => z.symm⟩
theorem v_odd11 (m s : sm_S) (hL : XL m s) (hI : zI m) (hJ : zI s) (hC : zC s) (X : Int32) : ∀ (n : Nat) (v2 v3 : Int32), 0 ≤ v3.toInt → v3.toInt ≤ (m.1 3 1).toInt → (m.1 3 1).toInt - v3.toInt < (n : Int) → (∀ v : Nat, v < 32 → bt v2 v = par (ta s) (tb s) (bt X) v v3.toNatClampNeg) → Sf (fun r => ∀ v : Nat, v < 32 → bt r v = par (ta s) (tb s) (bt X) v (nH s)) (fX2_oddCorners_4 n X v2 v3 m) := by
  have c31 : 0 ≤ (m.1 3 1).toInt ∧ (m.1 3 1).toInt ≤ 14 := hI.1 3 1
  have e31 := hL.hedge
  obtain ⟨eH, eC, bH, bC⟩ := t_n hJ
  intro n
  induction n with
  | zero => intro v2 v3 h0 h1 hn; have hz : ((0 : Nat) : Int) = 0 := rfl; omega
  | succ n ih =>
    intro v2 v3 h0 h1 hn hb
    have hnn : ((n + 1 : Nat) : Int) = (n : Int) + 1 := by omega
    have et := a_tn h0
    unfold fX2_oddCorners_4
    refine s_le (fun g => s_ret ?_) (fun g => ?_)
    · rw [show nH s = v3.toNatClampNeg by omega]; exact hb
    · have e3 : (v3 + (1 : Int32)).toInt = v3.toInt + 1 := a_addl L1 (by omega) (by omega)
      have hs : (v3 + (1 : Int32)).toNatClampNeg = v3.toNatClampNeg + 1 := by
        have := a_tn (x := v3 + (1 : Int32)) (by omega)
        omega
      have h00 := b_has0 (x := X) h0 (show v3.toInt < 32 by omega)
      refine s_if (fun q => ?_) (fun q => ?_)
      · refine ih v2 (v3 + (1 : Int32)) (by omega) (by omega) (by omega) (fun v hv => ?_)
        rw [hs, hb v hv]
        show _ = (par (ta s) (tb s) (bt X) v v3.toNatClampNeg ^^ (bt X v3.toNatClampNeg && _))
        rw [h00.mp q, Bool.false_and, Bool.xor_false]
      · have hX : bt X v3.toNatClampNeg = true := by
          cases hb2 : bt X v3.toNatClampNeg with
          | true => rfl
          | false => exact absurd (h00.mpr hb2) q
        obtain ⟨e, ee, he, -, -, hab⟩ := e_ends hL hI hJ hC h0 (by omega)
        rw [ee, Option.bind_some]
        refine ih _ (v3 + (1 : Int32)) (by omega) (by omega) (by omega) (fun v hv => ?_)
        rw [hs, b_xor, hb v hv, he v hv]
        show _ = (par (ta s) (tb s) (bt X) v v3.toNatClampNeg ^^ (bt X v3.toNatClampNeg && (decide (ta s v3.toNatClampNeg = v) ^^ decide (tb s v3.toNatClampNeg = v))))
        rw [hX, Bool.true_and]
        congr 1
        by_cases q1 : ta s v3.toNatClampNeg = v
        · rw [decide_eq_true q1, decide_eq_false (fun z => hab (q1.trans z.symm))]; rfl
        · rw [decide_eq_false q1]; simp
theorem s_odd11 {m s : sm_S} (hL : XL m s) (hI : zI m) (hJ : zI s) (hC : zC s) (X : Int32) : Sf (fun r => ∀ v : Nat, v < 32 → bt r v = par (ta s) (tb s) (bt X) v (nH s)) (fX2_oddCorners X m) := by
  have l0 := L0
  have hfu := fuE
  have z0 : (0 : Int32).toNatClampNeg = 0 := by decide
  have c31 : 0 ≤ (m.1 3 1).toInt ∧ (m.1 3 1).toInt ≤ 14 := hI.1 3 1
  exact v_odd11 m s hL hI hJ hC X sm_fu (0 : Int32) (0 : Int32) (by omega) (by omega) (by omega) (fun v _ => by rw [z0, b_0]; rfl)
theorem all_b {c : Int32} (h0 : 0 ≤ c.toInt) (h1 : c.toInt ≤ 14) : 0 ≤ (((1 : Int32) <<< (c &&& 31)) - (1 : Int32)).toInt ∧ (((1 : Int32) <<< (c &&& 31)) - (1 : Int32)).toInt ≤ 16383 := by
  have key : ∀ n, n < 15 → 0 ≤ (((1 : Int32) <<< ((nI n) &&& 31)) - (1 : Int32)).toInt ∧ (((1 : Int32) <<< ((nI n) &&& 31)) - (1 : Int32)).toInt ≤ 16383 := by decide +kernel
  have e := a_tn h0
  have h := key c.toNatClampNeg (by omega)
  rwa [← a_nI h0] at h
theorem tq_odd {m s : sm_S} (hR : RX m s) (hI : zI m) (hJ : zI s) (hC : zC s) : TR (fun a b => a.1 = b.1) (fX11_odd m) (fX12_odd s) := by
  have l0 := L0
  have c31 : 0 ≤ (m.1 3 1).toInt ∧ (m.1 3 1).toInt ≤ 14 := hI.1 3 1
  have e31 := hR.2.1.hedge
  have i0 : zI (sm_w1 s 72 0 (0 : Int32)) := zI.w hJ rfl (show 0 ≤ (0 : Int32).toInt ∧ (0 : Int32).toInt ≤ 1 by omega)
  have hC0 : zC (sm_w1 s 72 0 (0 : Int32)) := hC
  have i1 : zI (sm_w1 (sm_w1 s 72 0 (0 : Int32)) 72 1 (0 : Int32)) := zI.w i0 rfl (show 0 ≤ (0 : Int32).toInt ∧ (0 : Int32).toInt ≤ 24 by omega)
  have e1 : ((sm_w1 (sm_w1 s 72 0 (0 : Int32)) 72 1 (0 : Int32)).1 72 1).toInt = 0 := l0
  have hb := all_b c31.1 c31.2
  have es : (sm_w1 s 72 0 (0 : Int32)).1 72 6 = m.1 3 1 := hR.2.1.1.2.1.symm
  unfold fX11_odd fX12_odd fX2_everyHedge fX12_allHedges
  rw [Option.bind_some, Option.bind_some, es]
  refine tl_bd (s_odd11 hR.2.1 hI hJ hC _) (fun x hx => tr_bd (zod _ _ hb i0 hC0) (fun y hy => ?_))
  have exy : x = y := b_ext (fun i hi => (hx i hi).trans (hy.2 i hi).symm)
  subst exy
  refine tl_bd (zX5_tell x m hI) (fun m6 _ => tr_bd (zX12_enters x _ (by omega) i1) (fun m7 _ => ?_))
  obtain ⟨z, hz⟩ := bc_some x m6
  rw [hz, bc_eq x m7 m6, hz, Option.bind_some, Option.bind_some]
  exact t_ret rfl
/-- closed under the hedges of X that are not below h -/
def clo (s : sm_S) (X F : Int32) (h : Nat) : Prop := ∀ k : Nat, h ≤ k → k < nH s → bt X k = true → (bt F (ta s k) = true ∨ bt F (tb s k) = true) → (bt F (ta s k) = true ∧ bt F (tb s k) = true)
theorem e_29 (m s : sm_S) (hL : XL m s) (hI : zI m) (hJ : zI s) (hC : zC s) (X : Int32) (k10 : Int32 → Int32 → Int32 → Int32 → sm_S → Option Int32) (v4 v5 : Int32) (x : Nat) : ∀ (n : Nat) (v3 v6 : Int32), 0 ≤ v6.toInt → v6.toInt ≤ (m.1 3 1).toInt → (m.1 3 1).toInt - v6.toInt < (n : Int) → (∀ i : Nat, i < 32 → bt v3 i = true → cn (ta s) (tb s) (nH s) (bt X) x i ∧ i < 10) → ∃ F : Int32, (∀ i : Nat, i < 32 → bt v3 i = true → bt F i = true) ∧ (∀ i : Nat, i < 32 → bt F i = true → cn (ta s) (tb s) (nH s) (bt X) x i ∧ i < 10) ∧ (F = v3 → clo s X v3 v6.toNatClampNeg) ∧ fX2_hanging_29 k10 n X v3 v4 v5 v6 m = k10 X F v4 (v5 + (1 : Int32)) m := by
  have c31 : 0 ≤ (m.1 3 1).toInt ∧ (m.1 3 1).toInt ≤ 14 := hI.1 3 1
  have e31 := hL.hedge
  obtain ⟨eH, eC, bH, bC⟩ := t_n hJ
  intro n
  induction n with
  | zero => intro v3 v6 h0 h1 hn; have hz : ((0 : Nat) : Int) = 0 := rfl; omega
  | succ n ih =>
    intro v3 v6 h0 h1 hn hs
    have hnn : ((n + 1 : Nat) : Int) = (n : Int) + 1 := by omega
    have et := a_tn h0
    by_cases g : (m.1 3 1) ≤ v6
    · have g' := leI.mp g
      refine ⟨v3, fun _ _ q => q, hs, fun _ k hk hk2 => by omega, ?_⟩
      conv => lhs; unfold fX2_hanging_29
      rw [if_pos g]
    · have g' : v6.toInt < (m.1 3 1).toInt := Int.not_le.mp (fun z => g (leI.mpr z))
      have e6 : (v6 + (1 : Int32)).toInt = v6.toInt + 1 := a_addl L1 (by omega) (by omega)
      have hss : (v6 + (1 : Int32)).toNatClampNeg = v6.toNatClampNeg + 1 := by
        have := a_tn (x := v6 + (1 : Int32)) (by omega)
        omega
      have h00 := b_has0 (x := X) h0 (show v6.toInt < 32 by omega)
      obtain ⟨e, ee, he, ha10, hb10, hab⟩ := e_ends hL hI hJ hC h0 g'
      by_cases q : ((X >>> (v6 &&& 31)) &&& (1 : Int32)) = 0
      · obtain ⟨F, f1, f2, f3, f4⟩ := ih v3 (v6 + (1 : Int32)) (by omega) (by omega) (by omega) hs
        refine ⟨F, f1, f2, fun z k hk hk2 hX => ?_, ?_⟩
        · by_cases qk : k = v6.toNatClampNeg
          · subst qk; rw [h00.mp q] at hX; cases hX
          · exact f3 z k (by omega) hk2 hX
        · rw [← f4]
          conv => lhs; unfold fX2_hanging_29
          rw [if_neg g, if_pos q]
      · have hX6 : bt X v6.toNatClampNeg = true := by
          cases hb2 : bt X v6.toNatClampNeg with
          | true => rfl
          | false => exact absurd (h00.mpr hb2) q
        by_cases q2 : (v3 &&& e) = 0
        · obtain ⟨F, f1, f2, f3, f4⟩ := ih v3 (v6 + (1 : Int32)) (by omega) (by omega) (by omega) hs
          have none : ∀ i : Nat, i < 32 → bt v3 i = true → bt e i = true → False := by
            intro i hi a b
            have := congrArg (fun z => bt z i) q2
            simp only [b_and, b_0] at this
            rw [a, b] at this; cases this
          refine ⟨F, f1, f2, fun z k hk hk2 hX hor => ?_, ?_⟩
          · by_cases qk : k = v6.toNatClampNeg
            · subst qk
              rcases hor with hor | hor
              · exact absurd (none _ (by omega) hor (by rw [he _ (by omega), decide_eq_true rfl]; rfl)) id
              · exact absurd (none _ (by omega) hor (by rw [he _ (by omega), decide_eq_true (p := tb s v6.toNatClampNeg = tb s v6.toNatClampNeg) rfl, Bool.or_true])) id
            · exact f3 z k (by omega) hk2 hX hor
          · rw [← f4]
            conv => lhs; unfold fX2_hanging_29
            rw [if_neg g, if_neg q, ee, Option.bind_some, if_pos q2]
        · have some1 : bt v3 (ta s v6.toNatClampNeg) = true ∨ bt v3 (tb s v6.toNatClampNeg) = true := by
            by_cases qa : bt v3 (ta s v6.toNatClampNeg) = true
            · exact Or.inl qa
            · by_cases qb : bt v3 (tb s v6.toNatClampNeg) = true
              · exact Or.inr qb
              · exfalso
                refine q2 (b_ext (fun i hi => ?_))
                rw [b_and, b_0, he i hi]
                by_cases z1 : ta s v6.toNatClampNeg = i
                · subst z1; rw [Bool.eq_false_iff.mpr qa]; rfl
                · by_cases z2 : tb s v6.toNatClampNeg = i
                  · subst z2; rw [Bool.eq_false_iff.mpr qb]; rfl
                  · rw [decide_eq_false z1, decide_eq_false z2]; simp
          have ed : cn (ta s) (tb s) (nH s) (bt X) (ta s v6.toNatClampNeg) (tb s v6.toNatClampNeg) := cn.edge (by omega) hX6
          have cab : cn (ta s) (tb s) (nH s) (bt X) x (ta s v6.toNatClampNeg) ∧ cn (ta s) (tb s) (nH s) (bt X) x (tb s v6.toNatClampNeg) := by
            rcases some1 with z | z
            · have := (hs _ (by omega) z).1
              exact ⟨this, this.trans ed⟩
            · have := (hs _ (by omega) z).1
              exact ⟨this.trans ed.symm, this⟩
          obtain ⟨F, f1, f2, f3, f4⟩ := ih (v3 ||| e) (v6 + (1 : Int32)) (by omega) (by omega) (by omega) (fun i hi hb => by
            rw [b_or, he i hi] at hb
            rcases Bool.or_eq_true_iff.mp hb with hb | hb
            · exact hs i hi hb
            · rcases Bool.or_eq_true_iff.mp hb with hb | hb
              · have := of_decide_eq_true hb; subst this; exact ⟨cab.1, ha10⟩
              · have := of_decide_eq_true hb; subst this; exact ⟨cab.2, hb10⟩)
          refine ⟨F, fun i hi hb => f1 i hi (by rw [b_or, hb]; rfl), f2, fun z k hk hk2 hX hor => ?_, ?_⟩
          · -- the found set did not grow
            have same : (v3 ||| e) = v3 := by
              refine b_ext (fun i hi => ?_)
              cases hv : bt v3 i with
              | true => rw [b_or, hv]; rfl
              | false =>
                cases hve : bt (v3 ||| e) i with
                | false => rfl
                | true => have := f1 i hi hve; rw [z, hv] at this; cases this
            by_cases qk : k = v6.toNatClampNeg
            · subst qk
              constructor
              · rw [← same, b_or, he _ (by omega), decide_eq_true (p := ta s v6.toNatClampNeg = ta s v6.toNatClampNeg) rfl, Bool.true_or, Bool.or_true]
              · rw [← same, b_or, he _ (by omega), decide_eq_true (p := tb s v6.toNatClampNeg = tb s v6.toNatClampNeg) rfl, Bool.or_true, Bool.or_true]
            · have := f3 (by rw [same]; exact z) k (by omega) hk2 hX
              rw [same] at this
              exact this hor
          · rw [← f4]
            conv => lhs; unfold fX2_hanging_29
            rw [if_neg g, if_neg q, ee, Option.bind_some, if_neg q2, Option.bind_some]
theorem clo.all {s : sm_S} {X F : Int32} {x : Nat} (h : clo s X F 0) (hx : bt F x = true) {i : Nat} (hc : cn (ta s) (tb s) (nH s) (bt X) x i) : bt F i = true := by
  have key := hc (bt F) (fun k hk hX => ?_)
  · rw [← key]; exact hx
  · have := h k (Nat.zero_le _) hk hX
    cases ha : bt F (ta s k) with
    | true => exact ((this (Or.inl ha)).2).symm
    | false =>
      cases hb : bt F (tb s k) with
      | false => rfl
      | true => have := (this (Or.inr hb)).1; rw [ha] at this; cases this
theorem v_hang (m s : sm_S) (hL : XL m s) (hI : zI m) (hJ : zI s) (hC : zC s) (X : Int32) (x : Nat) (hx : x < 10) : ∀ (n : Nat) (v3 v4 v5 : Int32), 0 ≤ v5.toInt → v5.toInt ≤ 10 → 10 - v5.toInt < (n : Int) → bt v3 x = true → (∀ i : Nat, i < 32 → bt v3 i = true → cn (ta s) (tb s) (nH s) (bt X) x i ∧ i < 10) → ((v3 = v4 ∧ clo s X v3 0) ∨ (v3 ≠ v4 ∧ v5.toInt + 1 ≤ ((pc v3 : Nat) : Int))) → Sf (fun r => ∀ i : Nat, i < 32 → (bt r i = true ↔ cn (ta s) (tb s) (nH s) (bt X) x i)) (fX2_hanging_10 n X v3 v4 v5 m) := by
  have l0 := L0
  have l10 := L10
  have hfu := fuE
  have z0 : (0 : Int32).toNatClampNeg = 0 := by decide
  have c31 : 0 ≤ (m.1 3 1).toInt ∧ (m.1 3 1).toInt ≤ 14 := hI.1 3 1
  intro n
  induction n with
  | zero => intro v3 v4 v5 h0 h1 hn; have hz : ((0 : Nat) : Int) = 0 := rfl; omega
  | succ n ih =>
    intro v3 v4 v5 h0 h1 hn hb hs hv
    have hnn : ((n + 1 : Nat) : Int) = (n : Int) + 1 := by omega
    have hpc := pc_le v3
    unfold fX2_hanging_10
    refine s_le (fun g => s_ret (fun i hi => ?_)) (fun g => ?_)
    · rcases hv with ⟨-, hc⟩ | ⟨-, hc⟩
      · exact ⟨fun z => (hs i hi z).1, fun z => hc.all hb z⟩
      · omega
    · refine s_if (fun q => s_ret (fun i hi => ?_)) (fun q => ?_)
      · rcases hv with ⟨-, hc⟩ | ⟨hc, -⟩
        · exact ⟨fun z => (hs i hi z).1, fun z => hc.all hb z⟩
        · exact absurd q hc
      · have e5 : (v5 + (1 : Int32)).toInt = v5.toInt + 1 := a_addl L1 (by omega) (by omega)
        obtain ⟨F, f1, f2, f3, f4⟩ := e_29 m s hL hI hJ hC X (fX2_hanging_10 n) v3 v5 x sm_fu v3 (0 : Int32) (by omega) (by omega) (by omega) hs
        rw [f4]
        refine ih F v3 (v5 + (1 : Int32)) (by omega) (by omega) (by omega) (f1 x (by omega) hb) f2 ?_
        by_cases qF : F = v3
        · have := f3 qF
          rw [z0] at this
          rw [qF]
          exact Or.inl ⟨rfl, this⟩
        · refine Or.inr ⟨qF, ?_⟩
          rcases hv with ⟨hc, -⟩ | ⟨-, hc⟩
          · exact absurd hc q
          · obtain ⟨i, hi, hi2⟩ : ∃ i, i < 32 ∧ bt F i ≠ bt v3 i := by
              refine Classical.byContradiction (fun hne => qF (b_ext (fun i hi => ?_)))
              refine Classical.byContradiction (fun hq => hne ⟨i, hi, hq⟩)
            have hF : bt F i = true := by
              cases hf : bt F i with
              | true => rfl
              | false =>
                cases hg : bt v3 i with
                | false => rw [hf, hg] at hi2; exact absurd rfl hi2
                | true => have := f1 i hi hg; rw [hf] at this; cases this
            have hG : bt v3 i = false := by
              cases hg : bt v3 i with
              | false => rfl
              | true => rw [hF, hg] at hi2; exact absurd rfl hi2
            have hlt : pc v3 < pc F := cnt_lt i (fun k hk hk2 => f1 k (by omega) hk2) (f2 i hi hF).2 hG hF
            omega
/-- what hangs together with a corner by the hedges told -/
theorem s_hang {m s : sm_S} (hL : XL m s) (hI : zI m) (hJ : zI s) (hC : zC s) (X : Int32) {c : Int32} (hc : 0 ≤ c.toInt ∧ c.toInt < 10) : Sf (fun r => ∀ i : Nat, i < 32 → (bt r i = true ↔ cn (ta s) (tb s) (nH s) (bt X) c.toNatClampNeg i)) (fX2_hanging c X m) := by
  have l0 := L0
  have hfu := fuE
  have et := a_tn hc.1
  have hp := fun (i : Nat) (hi : i < 32) => b_pow hc.1 (show c.toInt < 32 by omega) hi
  have hbx : bt ((1 : Int32) <<< (c &&& 31)) c.toNatClampNeg = true := by rw [hp _ (by omega), decide_eq_true rfl]
  unfold fX2_hanging
  refine v_hang m s hL hI hJ hC X c.toNatClampNeg (by omega) sm_fu ((1 : Int32) <<< (c &&& 31)) (0 : Int32) (0 : Int32) (by omega) (by omega) (by omega) hbx (fun i hi hb => ?_) (Or.inr ⟨fun z => ?_, ?_⟩)
  · rw [hp i hi] at hb
    have := of_decide_eq_true hb
    subst this
    exact ⟨cn.refl, by omega⟩
  · rw [z, b_0] at hbx; cases hbx
  · have := pc_pos (x := (1 : Int32) <<< (c &&& 31)) (b := c.toNatClampNeg) (by omega) hbx
    omega
/-! bridges -/
theorem t_same2 {m m' : sm_S} (F : Fr [(72, 0), (94, 999)] m m') : ta m' = ta m ∧ tb m' = tb m ∧ nH m' = nH m ∧ nC m' = nC m := by
  obtain ⟨a, b, c⟩ := t_same (m := m) (m' := m') (fun j => F 76 j rfl) (fun j => F 77 j rfl) (F 72 6 rfl)
  refine ⟨a, b, c, ?_⟩
  unfold nC
  rw [F 72 3 rfl]
theorem tq_bridges_loop (m : sm_S) (hI : zI m) : ∀ (n : Nat) (v1 v2 : Int32) (s : sm_S), XL m s → zI s → zC s → 0 ≤ v2.toInt → v2.toInt ≤ (m.1 3 1).toInt → (m.1 3 1).toInt - v2.toInt < (n : Int) → TR (fun a b => a = b.1) (fX11_bridges_4 n v1 v2 m) (fX12_bridges_9 n v1 v2 s) := by
  have l0 := L0
  have c31 : 0 ≤ (m.1 3 1).toInt ∧ (m.1 3 1).toInt ≤ 14 := hI.1 3 1
  intro n
  induction n with
  | zero => intro v1 v2 s hL hJ hC h0 h1 hn; have hz : ((0 : Nat) : Int) = 0 := rfl; omega
  | succ n ih =>
    intro v1 v2 s hL hJ hC h0 h1 hn
    have hnn : ((n + 1 : Nat) : Int) = (n : Int) + 1 := by omega
    have et := a_tn h0
    have e31 := hL.hedge
    have es : s.1 72 6 = m.1 3 1 := hL.1.2.1.symm
    obtain ⟨eH, eC, bH, bC⟩ := t_n hJ
    unfold fX11_bridges_4 fX12_bridges_9
    refine tl_le (fun g => tr_le (fun _ => t_ret rfl) (fun g' => by omega)) (fun g => tr_le (fun g' => by omega) (fun _ => ?_))
    have e2 : (v2 + (1 : Int32)).toInt = v2.toInt + 1 := a_addl L1 (by omega) (by omega)
    unfold fX2_everyHedge fX12_allHedges
    rw [Option.bind_some, Option.bind_some, es]
    have hx : 0 ≤ v2.toInt ∧ v2.toInt < ((14 : Nat) : Int) := by omega
    have hb := all_b c31.1 c31.2
    generalize hX : ((((1 : Int32) <<< ((m.1 3 1) &&& 31)) - (1 : Int32)) &&& (((1 : Int32) <<< (v2 &&& 31)) ^^^ (-1 : Int32))) = X
    have hXb : 0 ≤ X.toInt ∧ X.toInt ≤ 16383 := by
      have := a_andl (x := (((1 : Int32) <<< ((m.1 3 1) &&& 31)) - (1 : Int32))) (y := (((1 : Int32) <<< (v2 &&& 31)) ^^^ (-1 : Int32))) hb.1
      rw [hX] at this
      omega
    obtain ⟨a1, b1, a2, b2, ab⟩ := t_ends hJ hC (h := v2.toNatClampNeg) (by omega)
    obtain ⟨q1, q2, -⟩ := hL.row h0 (by omega)
    have ea : ta s v2.toNatClampNeg = (s.1 76 v2.toNatClampNeg).toNatClampNeg := rfl
    have eb : tb s v2.toNatClampNeg = (s.1 77 v2.toNatClampNeg).toNatClampNeg := rfl
    refine tl_ix hx ?_
    rw [q1, q2]
    refine tl_bd (s_hang hL hI hJ hC X (c := s.1 76 v2.toNatClampNeg) (by omega)) (fun r5 h5 => ?_)
    refine tl_ix hx ?_
    refine tr_bd (zpt X s hXb hJ hC) (fun s4 h4 => ?_)
    obtain ⟨j4, F4, p4⟩ := h4
    have F4' : Fr [(72, 0), (94, 999)] s s4 := Fr.sub F4 rfl
    obtain ⟨w1, w2, w3, w4⟩ := t_same2 F4'
    have hL4 : XL m s4 := hL.fr (W := []) Fr.refl F4' rfl
    have hC4 : zC s4 := hC.fr F4' rfl
    have f76 : s4.1 76 v2.toNatClampNeg = s.1 76 v2.toNatClampNeg := F4 76 _ rfl
    have f77 : s4.1 77 v2.toNatClampNeg = s.1 77 v2.toNatClampNeg := F4 77 _ rfl
    rw [f76, f77]
    refine tr_ix hx (tr_ix (by omega) (tr_ix hx (tr_ix (by omega) ?_)))
    have key : (s4.1 94 (s.1 76 v2.toNatClampNeg).toNatClampNeg) = (s4.1 94 (s.1 77 v2.toNatClampNeg).toNatClampNeg) ↔ cn (ta s) (tb s) (nH s) (bt X) (ta s v2.toNatClampNeg) (tb s v2.toNatClampNeg) := by
      have := p4 (ta s v2.toNatClampNeg) (tb s v2.toNatClampNeg) (by omega) (by omega)
      unfold tl tcn at this
      rw [w1, w2, w3] at this
      rw [← this, eqI]
      exact Iff.rfl
    have hb7 := b_has0 (x := r5) (b := s.1 77 v2.toNatClampNeg) (by omega) (by omega)
    have h57 := h5 (s.1 77 v2.toNatClampNeg).toNatClampNeg (by omega)
    refine tl_if (fun q => ?_) (fun q => ?_)
    · have nb := hb7.mp q
      refine tr_if (fun z => ?_) (fun _ => ih _ _ s4 hL4 j4 hC4 (by omega) (by omega) (by omega))
      have := h57.mpr (key.mp z)
      rw [nb] at this; cases this
    · have yb : bt r5 (s.1 77 v2.toNatClampNeg).toNatClampNeg = true := by
        cases hbb : bt r5 (s.1 77 v2.toNatClampNeg).toNatClampNeg with
        | true => rfl
        | false => exact absurd (hb7.mpr hbb) q
      refine tr_if (fun _ => ?_) (fun z => absurd (key.mpr (h57.mp yb)) z)
      rw [or_0]
      exact ih _ _ s4 hL4 j4 hC4 (by omega) (by omega) (by omega)
theorem tq_bridges {m s : sm_S} (hR : RX m s) (hI : zI m) (hJ : zI s) (hC : zC s) : TR (fun a b => a = b.1) (fX11_bridges m) (fX12_bridges s) := by
  have l0 := L0
  have hfu := fuE
  have c31 : 0 ≤ (m.1 3 1).toInt ∧ (m.1 3 1).toInt ≤ 14 := hI.1 3 1
  have i0 : zI (sm_w1 s 72 0 (0 : Int32)) := zI.w hJ rfl (show 0 ≤ (0 : Int32).toInt ∧ (0 : Int32).toInt ≤ 1 by omega)
  have hL : XL m (sm_w1 s 72 0 (0 : Int32)) := hR.2.1
  have hC0 : zC (sm_w1 s 72 0 (0 : Int32)) := hC
  exact tq_bridges_loop m hI sm_fu (0 : Int32) (0 : Int32) _ hL i0 hC0 (by omega) (by omega) (by omega)
