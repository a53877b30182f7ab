/-! WHAT IS HEARD: ways and lies in both -/
def cww (w f : Int32) : Int32 := (w >>> (((2 : Int32) * ((5 : Int32) - f)) &&& 31)) &&& (3 : Int32)
/-- cows over a hedge in a way -/
def ovw (m : sm_S) (w h : Int32) : Int32 := cww w (m.1 9 h.toNatClampNeg) + cww w (m.1 10 h.toNatClampNeg)
/-- hearing k is a lyw in a way -/
def lyw (m : sm_S) (w : Int32) (k : Nat) : Bool := !decide (ovw m w (m.1 53 k) = m.1 54 k)
theorem e_over11 {m : sm_S} {h w : Int32} (hh : 0 ≤ h.toInt ∧ h.toInt < ((14 : Nat) : Int)) : fX0_cowsOver h w m = some (ovw m w h) := by
  unfold fX0_cowsOver fX0_cowsIn
  rw [if_pos (ix_in hh), Option.bind_some, if_pos (ix_in hh)]
  rfl
theorem e_over12 {m s : sm_S} {h w : Int32} (hL : XL m s) (hI : zI m) (h0 : 0 ≤ h.toInt) (h1 : h.toInt < (m.1 3 1).toInt) : fX12_over w h s = some (ovw m w h) := by
  have c31 : 0 ≤ (m.1 3 1).toInt ∧ (m.1 3 1).toInt ≤ 14 := hI.1 3 1
  have hh : 0 ≤ h.toInt ∧ h.toInt < ((14 : Nat) : Int) := by omega
  obtain ⟨-, -, -, q4, q5, -⟩ := hL.row h0 h1
  unfold fX12_over fX12_cowsOf
  rw [if_pos (ix_in hh), Option.bind_some, if_pos (ix_in hh), ← q4, ← q5]
  rfl
theorem e_isLie {m : sm_S} {w k : Int32} (hI : zI m) (h0 : 0 ≤ k.toInt) (h1 : k.toInt < 12) : fX0_isLie w k m = some (if lyw m w k.toNatClampNeg then (1 : Int32) else 0) := by
  have hh : 0 ≤ k.toInt ∧ k.toInt < ((12 : Nat) : Int) := by omega
  have c53 : 0 ≤ (m.1 53 k.toNatClampNeg).toInt ∧ (m.1 53 k.toNatClampNeg).toInt ≤ 13 := hI.1 53 k.toNatClampNeg
  unfold fX0_isLie
  rw [if_pos (ix_in hh), e_over11 (by omega), Option.bind_some, if_pos (ix_in hh)]
  unfold lyw
  by_cases q : ovw m w (m.1 53 k.toNatClampNeg) = m.1 54 k.toNatClampNeg
  · rw [if_pos q, decide_eq_true q]; rfl
  · rw [if_neg q, decide_eq_false q]; rfl
theorem b_has0 {x b : Int32} (h0 : 0 ≤ b.toInt) (h1 : b.toInt < 32) : ((x >>> (b &&& 31)) &&& (1 : Int32)) = 0 ↔ bt x b.toNatClampNeg = false := by
  have h := b_has (x := x) h0 h1
  have r := a_andr (x := (x >>> (b &&& 31))) (y := (1 : Int32)) (by decide)
  have l0 := L0
  have l1 := L1
  constructor
  · intro q
    cases hb : bt x b.toNatClampNeg with
    | false => rfl
    | true => have := h.mpr hb; rw [q] at this; exact absurd this (by decide)
  · intro q
    have hn : ¬ (((x >>> (b &&& 31)) &&& (1 : Int32)) = 1) := fun z => by rw [h.mp z] at q; cases q
    have hn' : ((x >>> (b &&& 31)) &&& (1 : Int32)).toInt ≠ 1 := fun z => hn (eqI.mpr (by rw [z]; exact l1.symm))
    exact eqI.mpr (by omega)
/-- the hearings that a way makes lies -/
def WBw (m : sm_S) (w x : Int32) : Prop := ∀ i : Nat, i < 32 → bt x i = (decide ((i : Int) < (m.1 51 0).toInt) && lyw m w i)
theorem WBw.eq {m : sm_S} {w x y : Int32} (h1 : WBw m w x) (h2 : WBw m w y) : x = y := b_ext (fun i hi => (h1 i hi).trans (h2 i hi).symm)
theorem v_liesOf : ∀ (n : Nat) (w v3 v4 : Int32) (m : sm_S), zI m → 0 ≤ v4.toInt → v4.toInt ≤ (m.1 51 0).toInt → (m.1 51 0).toInt - v4.toInt < (n : Int) → (∀ i : Nat, i < 32 → bt v3 i = (decide ((i : Int) < v4.toInt) && lyw m w i)) → Sf (fun r => WBw m w r) (fX0_liesOf_5 n w v3 v4 m) := by
  have l0 := L0
  have l1 := L1
  intro n
  induction n with
  | zero => intro w v3 v4 m hI h0 h1 hn hb; have hz : ((0 : Nat) : Int) = 0 := rfl; omega
  | succ n ih =>
    intro w v3 v4 m hI h0 h1 hn hb
    have hnn : ((n + 1 : Nat) : Int) = (n : Int) + 1 := by omega
    have c51 : 0 ≤ (m.1 51 0).toInt ∧ (m.1 51 0).toInt ≤ 12 := hI.1 51 0
    unfold fX0_liesOf_5
    refine s_le (fun g => s_ret (fun i hi => ?_)) (fun g => ?_)
    · rw [hb i hi, show v4.toInt = (m.1 51 0).toInt by omega]
    · have e4 : (v4 + (1 : Int32)).toInt = v4.toInt + 1 := a_addl L1 (by omega) (by omega)
      have et := a_tn h0
      rw [e_isLie hI h0 (by omega), Option.bind_some]
      have nx : ∀ i : Nat, i < 32 → (decide ((i : Int) < v4.toInt) && lyw m w i || (decide (i = v4.toNatClampNeg) && lyw m w i)) = (decide ((i : Int) < v4.toInt + 1) && lyw m w i) := by
        intro i hi
        by_cases q : (i : Int) < v4.toInt
        · rw [decide_eq_true q, decide_eq_true (show (i : Int) < v4.toInt + 1 by omega), decide_eq_false (show ¬ i = v4.toNatClampNeg by omega)]; simp
        · by_cases q2 : i = v4.toNatClampNeg
          · rw [decide_eq_false q, decide_eq_true (show (i : Int) < v4.toInt + 1 by omega), decide_eq_true q2]; simp
          · rw [decide_eq_false q, decide_eq_false (show ¬ (i : Int) < v4.toInt + 1 by omega), decide_eq_false q2]; simp
      cases hl : lyw m w v4.toNatClampNeg with
      | false =>
        rw [if_pos (show (if (false = true) then (1 : Int32) else 0) = 0 from rfl)]
        refine ih w v3 (v4 + (1 : Int32)) m hI (by omega) (by omega) (by omega) (fun i hi => ?_)
        rw [hb i hi, e4, ← nx i hi]
        by_cases q2 : i = v4.toNatClampNeg
        · subst q2; rw [hl]; simp
        · rw [decide_eq_false q2]; simp
      | true =>
        rw [if_neg (show ¬ ((if (true = true) then (1 : Int32) else 0) = 0) by decide)]
        refine ih w _ (v4 + (1 : Int32)) m hI (by omega) (by omega) (by omega) (fun i hi => ?_)
        rw [b_or, hb i hi, b_pow h0 (by omega) hi, e4, ← nx i hi]
        by_cases q2 : i = v4.toNatClampNeg
        · subst q2; rw [hl]; simp
        · rw [decide_eq_false q2]; simp
theorem v_wrongOf : ∀ (n : Nat) (w v3 v4 : Int32) (m s : sm_S), XL m s → XE m s → zI m → 0 ≤ v4.toInt → v4.toInt ≤ (m.1 51 0).toInt → (m.1 51 0).toInt - v4.toInt < (n : Int) → (∀ i : Nat, i < 32 → bt v3 i = (decide ((i : Int) < v4.toInt) && lyw m w i)) → Sf (fun r => WBw m w r) (fX12_wrongOf_4 n w v3 v4 s) := by
  have l0 := L0
  have l1 := L1
  intro n
  induction n with
  | zero => intro w v3 v4 m s hL hE hI h0 h1 hn hb; have hz : ((0 : Nat) : Int) = 0 := rfl; omega
  | succ n ih =>
    intro w v3 v4 m s hL hE hI h0 h1 hn hb
    have hnn : ((n + 1 : Nat) : Int) = (n : Int) + 1 := by omega
    have c51 : 0 ≤ (m.1 51 0).toInt ∧ (m.1 51 0).toInt ≤ 12 := hI.1 51 0
    have e51 : (m.1 51 0).toInt = (s.1 72 51).toInt := congrArg Int32.toInt hE.1
    unfold fX12_wrongOf_4
    refine s_le (fun g => s_ret (fun i hi => ?_)) (fun g => ?_)
    · rw [hb i hi, show v4.toInt = (m.1 51 0).toInt by omega]
    · have e4 : (v4 + (1 : Int32)).toInt = v4.toInt + 1 := a_addl L1 (by omega) (by omega)
      have et := a_tn h0
      have hh : 0 ≤ v4.toInt ∧ v4.toInt < ((12 : Nat) : Int) := by omega
      obtain ⟨u1, u2, u3⟩ := hE.2 v4.toNatClampNeg (by omega)
      have c53 : 0 ≤ (m.1 53 v4.toNatClampNeg).toInt ∧ (m.1 53 v4.toNatClampNeg).toInt ≤ 13 := hI.1 53 v4.toNatClampNeg
      refine s_ix hh ?_
      rw [← u1, ← u2, e_over12 hL hI c53.1 u3, Option.bind_some]
      refine s_ix hh ?_
      have nx : ∀ i : Nat, i < 32 → (decide ((i : Int) < v4.toInt) && lyw m w i || (decide (i = v4.toNatClampNeg) && lyw m w i)) = (decide ((i : Int) < v4.toInt + 1) && lyw m w i) := by
        intro i hi
        by_cases q : (i : Int) < v4.toInt
        · rw [decide_eq_true q, decide_eq_true (show (i : Int) < v4.toInt + 1 by omega), decide_eq_false (show ¬ i = v4.toNatClampNeg by omega)]; simp
        · by_cases q2 : i = v4.toNatClampNeg
          · rw [decide_eq_false q, decide_eq_true (show (i : Int) < v4.toInt + 1 by omega), decide_eq_true q2]; simp
          · rw [decide_eq_false q, decide_eq_false (show ¬ (i : Int) < v4.toInt + 1 by omega), decide_eq_false q2]; simp
      refine s_if (fun q => ?_) (fun q => ?_)
      · have hl : lyw m w v4.toNatClampNeg = false := by unfold lyw; rw [decide_eq_true q]; rfl
        refine ih w _ (v4 + (1 : Int32)) m s hL hE hI (by omega) (by omega) (by omega) (fun i hi => ?_)
        rw [b_or, b_0, Bool.or_false, hb i hi, e4, ← nx i hi]
        by_cases q2 : i = v4.toNatClampNeg
        · subst q2; rw [hl]; simp
        · rw [decide_eq_false q2]; simp
      · have hl : lyw m w v4.toNatClampNeg = true := by unfold lyw; rw [decide_eq_false q]; rfl
        refine ih w _ (v4 + (1 : Int32)) m s hL hE hI (by omega) (by omega) (by omega) (fun i hi => ?_)
        rw [b_or, hb i hi, b_pow h0 (by omega) hi, e4, ← nx i hi]
        by_cases q2 : i = v4.toNatClampNeg
        · subst q2; rw [hl]; simp
        · rw [decide_eq_false q2]; simp
theorem s_liesOf {m : sm_S} (w : Int32) (hI : zI m) : Sf (fun r => WBw m w r) (fX0_liesOf w m) := by
  have l0 := L0
  have hfu := fuE
  have c51 : 0 ≤ (m.1 51 0).toInt ∧ (m.1 51 0).toInt ≤ 12 := hI.1 51 0
  exact v_liesOf sm_fu w _ _ m hI (by omega) (by omega) (by omega) (fun i hi => by rw [b_0, l0, decide_eq_false (by omega)]; rfl)
theorem s_wrongOf {m s : sm_S} (w : Int32) (hL : XL m s) (hE : XE m s) (hI : zI m) : Sf (fun r => WBw m w r) (fX12_wrongOf w s) := by
  have l0 := L0
  have hfu := fuE
  have c51 : 0 ≤ (m.1 51 0).toInt ∧ (m.1 51 0).toInt ≤ 12 := hI.1 51 0
  exact v_wrongOf sm_fu w _ _ m s hL hE hI (by omega) (by omega) (by omega) (fun i hi => by rw [b_0, l0, decide_eq_false (by omega)]; rfl)
/-- a way in which all hearings among a hldw -/
def hldw (m : sm_S) (w a : Int32) : Prop := ∀ k : Nat, (k : Int) < (m.1 51 0).toInt → bt a k = true → lyw m w k = false
theorem v_allHold : ∀ (n : Nat) (w a v4 : Int32) (m : sm_S), zI m → 0 ≤ v4.toInt → v4.toInt ≤ (m.1 51 0).toInt → (m.1 51 0).toInt - v4.toInt < (n : Int) → (∀ k : Nat, (k : Int) < v4.toInt → bt a k = true → lyw m w k = false) → Sf (fun r => (r.toInt = 1 ∧ hldw m w a) ∨ (r.toInt = 0 ∧ ¬ hldw m w a)) (fX0_allHold_3 n w a v4 m) := by
  have l0 := L0
  have l1 := L1
  intro n
  induction n with
  | zero => intro w a v4 m hI h0 h1 hn hb; have hz : ((0 : Nat) : Int) = 0 := rfl; omega
  | succ n ih =>
    intro w a v4 m hI h0 h1 hn hb
    have hnn : ((n + 1 : Nat) : Int) = (n : Int) + 1 := by omega
    have c51 : 0 ≤ (m.1 51 0).toInt ∧ (m.1 51 0).toInt ≤ 12 := hI.1 51 0
    unfold fX0_allHold_3
    refine s_le (fun g => s_ret (Or.inl ⟨l1, fun k hk => hb k (by omega)⟩)) (fun g => ?_)
    have e4 : (v4 + (1 : Int32)).toInt = v4.toInt + 1 := a_addl L1 (by omega) (by omega)
    have et := a_tn h0
    have nx : (bt a v4.toNatClampNeg = true → lyw m w v4.toNatClampNeg = false) → ∀ k : Nat, (k : Int) < (v4 + (1 : Int32)).toInt → bt a k = true → lyw m w k = false := by
      intro hq k hk
      by_cases q : k = v4.toNatClampNeg
      · subst q; exact hq
      · exact hb k (by omega)
    refine s_if (fun q => ?_) (fun q => ?_)
    · refine ih w a (v4 + (1 : Int32)) m hI (by omega) (by omega) (by omega) (nx (fun z => ?_))
      rw [(b_has0 h0 (by omega)).mp q] at z; cases z
    · rw [e_isLie hI h0 (by omega), Option.bind_some]
      cases hl : lyw m w v4.toNatClampNeg with
      | false =>
        rw [if_pos (show (if (false = true) then (1 : Int32) else 0) = 0 from rfl)]
        exact ih w a (v4 + (1 : Int32)) m hI (by omega) (by omega) (by omega) (nx (fun _ => hl))
      | true =>
        rw [if_neg (show ¬ ((if (true = true) then (1 : Int32) else 0) = 0) by decide)]
        refine s_ret (Or.inr ⟨l0, fun z => ?_⟩)
        have hb2 : bt a v4.toNatClampNeg = true := by
          cases hbb : bt a v4.toNatClampNeg with
          | true => rfl
          | false => exact absurd ((b_has0 h0 (by omega)).mpr hbb) q
        have := z v4.toNatClampNeg (by omega) hb2
        rw [hl] at this; cases this
theorem s_allHold {m : sm_S} (w a : Int32) (hI : zI m) : Sf (fun r => (r.toInt = 1 ∧ hldw m w a) ∨ (r.toInt = 0 ∧ ¬ hldw m w a)) (fX0_allHold w a m) := by
  have l0 := L0
  have hfu := fuE
  have c51 : 0 ≤ (m.1 51 0).toInt ∧ (m.1 51 0).toInt ≤ 12 := hI.1 51 0
  exact v_allHold sm_fu w a _ m hI (by omega) (by omega) (by omega) (fun k hk => by omega)
theorem WBw.hldw {m : sm_S} {w x a : Int32} (h : WBw m w x) (hI : zI m) : (x &&& a = 0) ↔ hldw m w a := by
  have c51 : 0 ≤ (m.1 51 0).toInt ∧ (m.1 51 0).toInt ≤ 12 := hI.1 51 0
  constructor
  · intro q k hk ha
    have := congrArg (fun z => bt z k) q
    simp only [b_and, b_0] at this
    rw [h k (by omega), ha, decide_eq_true hk] at this
    simpa using this
  · intro q
    refine b_ext (fun i hi => ?_)
    rw [b_and, b_0, h i hi]
    by_cases g : (i : Int) < (m.1 51 0).toInt
    · cases ha : bt a i with
      | false => simp
      | true => rw [q i g ha]; simp
    · rw [decide_eq_false g]; simp
/-! lies -/
theorem bc_eq (x : Int32) (m s : sm_S) : fJ6_bitCount_0f7a4 x m = fJ6_bitCount_0f7a4 x s := rfl
theorem bc_some (x : Int32) (m : sm_S) : ∃ y, fJ6_bitCount_0f7a4 x m = some y := ⟨_, rfl⟩
theorem tq_lies_loop (m s : sm_S) (hL : XL m s) (hE : XE m s) (hI : zI m) (hJ : zI s) : ∀ (n : Nat) (v2 v3 : Int32), 0 ≤ v3.toInt → v3.toInt ≤ 4096 → 4096 - v3.toInt < (n : Int) → TR (fun v b => fJ6_bitCount_0f7a4 v m = some b.1) (fX0_fewestLies_7 n v2 v3 m) (fX12_lies_16 n v2 v3 s) := by
  have l0 := L0
  have l1 := L1
  have l4096 := L4096
  intro n
  induction n with
  | zero => intro v2 v3 h0 h1 hn; have hz : ((0 : Nat) : Int) = 0 := rfl; omega
  | succ n ih =>
    intro v2 v3 h0 h1 hn
    have hnn : ((n + 1 : Nat) : Int) = (n : Int) + 1 := by omega
    unfold fX0_fewestLies_7 fX12_lies_16
    refine tl_le (fun g => tr_le (fun _ => ?_) (fun g' => absurd g (Int.not_le.mpr g'))) (fun g => tr_le (fun g' => absurd g' (Int.not_le.mpr g)) (fun _ => ?_))
    · have i1 : zI (sm_w1 s 72 1 (0 : Int32)) := zI.w hJ rfl (show 0 ≤ (0 : Int32).toInt ∧ (0 : Int32).toInt ≤ 24 by omega)
      have e1 : ((sm_w1 s 72 1 (0 : Int32)).1 72 1).toInt = 0 := l0
      refine tr_bd (zX12_enters v2 _ (by omega) i1) (fun m2 _ => ?_)
      obtain ⟨y, hy⟩ := bc_some v2 m2
      rw [hy, Option.bind_some]
      exact t_ret ((bc_eq v2 m m2).trans hy)
    · have e3 : (v3 + (1 : Int32)).toInt = v3.toInt + 1 := a_addl L1 (by omega) (by omega)
      have nx : ∀ v : Int32, TR (fun v b => fJ6_bitCount_0f7a4 v m = some b.1) (fX0_fewestLies_7 n v (v3 + (1 : Int32)) m) (fX12_lies_16 n v (v3 + (1 : Int32)) s) := fun v => ih v (v3 + (1 : Int32)) (by omega) (by omega) (by omega)
      refine tl_bd (s_liesOf v3 hI) (fun x hx => tr_bd (s_wrongOf v3 hL hE hI) (fun y hy => ?_))
      obtain rfl := hx.eq hy
      obtain ⟨p, hp⟩ := bc_some x m
      obtain ⟨q, hq⟩ := bc_some v2 m
      rw [bc_eq x s m, bc_eq v2 s m, hp, hq, Option.bind_some, Option.bind_some, Option.bind_some, Option.bind_some]
      by_cases g1 : (p - q) < 0
      · rw [if_pos g1, if_pos g1]; exact nx _
      · rw [if_neg g1, if_neg g1]
        by_cases g2 : (p - q) = 0
        · rw [if_pos g2, if_pos g2]
          by_cases g3 : v2 ≤ x
          · rw [if_pos g3, if_pos g3]; exact nx _
          · rw [if_neg g3, if_neg g3]; exact nx _
        · rw [if_neg g2, if_neg g2]; exact nx _
theorem tq_lies {m s : sm_S} (hR : RX m s) (hI : zI m) (hJ : zI s) (_ : zC s) : TR (fun a b => a.1 = b.1) (fX11_lies m) (fX12_lies s) := by
  have l0 := L0
  have hfu := fuE
  have i0 : zI (sm_w1 s 72 0 (0 : Int32)) := zI.w hJ rfl (show 0 ≤ (0 : Int32).toInt ∧ (0 : Int32).toInt ≤ 1 by omega)
  have hL : XL m (sm_w1 s 72 0 (0 : Int32)) := hR.2.1
  have hE : XE m (sm_w1 s 72 0 (0 : Int32)) := hR.2.2
  have key := tq_lies_loop m (sm_w1 s 72 0 (0 : Int32)) hL hE hI i0 sm_fu (((1 : Int32) <<< ((m.1 51 0) &&& 31)) - (1 : Int32)) (0 : Int32) (by omega) (by omega) (by omega)
  unfold fX11_lies fX0_fewestLies fX0_all fX12_lies
  rw [Option.bind_some, ← hR.2.2.1]
  obtain ⟨v, b, ev, eb, hb⟩ := key
  rw [ev, eb, Option.bind_some]
  refine tl_bd (zX5_tell v m hI) (fun m4 _ => ?_)
  rw [bc_eq v m4 m, hb, Option.bind_some]
  exact t_ret rfl
/-! quarrel -/
theorem tq_hasWay (m s : sm_S) (hL : XL m s) (hE : XE m s) (hI : zI m) (a : Int32) : ∀ (n : Nat) (v3 : Int32), 0 ≤ v3.toInt → v3.toInt ≤ 4096 → 4096 - v3.toInt < (n : Int) → TR (fun x y => x = y) (fX0_hasWay_2 n a v3 m) (fX12_holds_2 n a v3 s) := by
  have l0 := L0
  have l1 := L1
  have l4096 := L4096
  intro n
  induction n with
  | zero => intro v3 h0 h1 hn; have hz : ((0 : Nat) : Int) = 0 := rfl; omega
  | succ n ih =>
    intro v3 h0 h1 hn
    have hnn : ((n + 1 : Nat) : Int) = (n : Int) + 1 := by omega
    unfold fX0_hasWay_2 fX12_holds_2
    refine tl_le (fun g => tr_le (fun _ => t_ret rfl) (fun g' => absurd g (Int.not_le.mpr g'))) (fun g => tr_le (fun g' => absurd g' (Int.not_le.mpr g)) (fun _ => ?_))
    have e3 : (v3 + (1 : Int32)).toInt = v3.toInt + 1 := a_addl L1 (by omega) (by omega)
    refine tl_bd (s_allHold v3 a hI) (fun x hx => tr_bd (s_wrongOf v3 hL hE hI) (fun y hy => ?_))
    have hh := hy.hldw (a := a) hI
    refine tl_eq (fun g1 => ?_) (fun g1 => ?_)
    · have hn' : ¬ hldw m v3 a := by rcases hx with hx | hx; · omega
                                     · exact hx.2
      refine tr_if (fun g2 => absurd (hh.mp g2) hn') (fun _ => ih (v3 + (1 : Int32)) (by omega) (by omega) (by omega))
    · have hn' : hldw m v3 a := by rcases hx with hx | hx; · exact hx.2
                                   · omega
      exact tr_if (fun _ => t_ret rfl) (fun g2 => absurd (hh.mpr hn') g2)
/-- the second half of quarrel: which number the row gets does not matter to the answer -/
theorem v_quarrel50 : ∀ (n : Nat) (v1 v2 v3 : Int32) (s : sm_S) (r : Int32 × sm_S), fX12_quarrel_50 n v1 v2 v3 s = some r → r.1 = v1 := by
  intro n
  induction n with
  | zero => intro v1 v2 v3 s r h; cases h
  | succ n ih =>
    intro v1 v2 v3 s r h
    unfold fX12_quarrel_50 at h
    split at h
    · cases he : fX12_enters v2 (sm_w1 s 72 1 (0 : Int32)) with
      | none => rw [he] at h; cases h
      | some z => rw [he] at h; obtain rfl := Option.some.inj h; rfl
    · cases he : fX12_holds (((1 : Int32) <<< (v1 &&& 31)) ||| ((1 : Int32) <<< (v3 &&& 31))) s with
      | none => rw [he] at h; cases h
      | some z =>
        rw [he, Option.bind_some] at h
        split at h
        · exact ih _ _ _ _ _ h
        · exact ih _ _ _ _ _ h
theorem tq_quarrel_loop (m s : sm_S) (hL : XL m s) (hE : XE m s) (hI : zI m) : ∀ (n : Nat) (v : Int32) (x : Int32) (b : Int32 × sm_S), 0 ≤ v.toInt → v.toInt ≤ (m.1 51 0).toInt → (m.1 51 0).toInt - v.toInt < (n : Int) → fX0_firstWithoutWays_2 n v m = some x → fX12_quarrel_7 n v s = some b → (x.toInt < 0 ∧ b.1.toInt = -2) ∨ (0 ≤ x.toInt ∧ x = b.1) := by
  have l0 := L0
  have l1 := L1
  have ln1 := Ln1
  have ln2 : (-2 : Int32).toInt = -2 := by decide
  have hfu := fuE
  have c51 : 0 ≤ (m.1 51 0).toInt ∧ (m.1 51 0).toInt ≤ 12 := hI.1 51 0
  intro n
  induction n with
  | zero => intro v x b h0 h1 hn; have hz : ((0 : Nat) : Int) = 0 := rfl; omega
  | succ n ih =>
    intro v x b h0 h1 hn ex eb
    have hnn : ((n + 1 : Nat) : Int) = (n : Int) + 1 := by omega
    unfold fX0_firstWithoutWays_2 at ex
    unfold fX12_quarrel_7 at eb
    rw [← hE.1] at eb
    by_cases g : (m.1 51 0) ≤ v
    · have g' := leI.mp g
      rw [if_pos g] at ex eb
      rw [if_pos (eqI.mpr (show v.toInt = (m.1 51 0).toInt by omega))] at eb
      obtain rfl := Option.some.inj ex
      obtain rfl := Option.some.inj eb
      exact Or.inl ⟨by omega, ln2⟩
    · have g' : v.toInt < (m.1 51 0).toInt := Int.not_le.mp (fun z => g (leI.mpr z))
      rw [if_neg g] at ex eb
      obtain ⟨p, q, ep, eq, epq⟩ := tq_hasWay m s hL hE hI (((2 : Int32) <<< (v &&& 31)) - (1 : Int32)) sm_fu (0 : Int32) (by omega) (by omega) (by omega)
      subst epq
      unfold fX0_hasWay at ex
      unfold fX12_holds at eb
      rw [ep, Option.bind_some] at ex
      rw [eq, Option.bind_some] at eb
      by_cases g2 : p = 0
      · rw [if_pos g2] at ex eb
        rw [if_neg (fun z => by have := eqI.mp z; omega)] at eb
        obtain rfl := Option.some.inj ex
        exact Or.inr ⟨h0, (v_quarrel50 _ _ _ _ _ _ eb).symm⟩
      · rw [if_neg g2] at ex eb
        have e3 : (v + (1 : Int32)).toInt = v.toInt + 1 := a_addl L1 (by omega) (by omega)
        exact ih (v + (1 : Int32)) x b (by omega) (by omega) (by omega) ex eb
theorem tq_quarrel {m s : sm_S} (hR : RX m s) (hI : zI m) (hJ : zI s) (_ : zC s) : TR (fun a b => a.1 = b.1) (fX11_quarrel m) (fX12_quarrel s) := by
  have l0 := L0
  have hfu := fuE
  have ln2 : (-2 : Int32).toInt = -2 := by decide
  have c51 : 0 ≤ (m.1 51 0).toInt ∧ (m.1 51 0).toInt ≤ 12 := hI.1 51 0
  have hL : XL m (sm_w1 s 72 0 (0 : Int32)) := hR.2.1
  have hE : XE m (sm_w1 s 72 0 (0 : Int32)) := hR.2.2
  obtain ⟨a, ea, -, -⟩ := zX11_quarrel m hI
  obtain ⟨b, eb, -, -⟩ := zX12_quarrel s hJ
  refine ⟨a, b, ea, eb, ?_⟩
  unfold fX11_quarrel fX0_firstWithoutWays at ea
  unfold fX12_quarrel at eb
  cases ex : fX0_firstWithoutWays_2 sm_fu (0 : Int32) m with
  | none => rw [ex] at ea; cases ea
  | some x =>
    rw [ex, Option.bind_some] at ea
    have key := tq_quarrel_loop m _ hL hE hI sm_fu (0 : Int32) x b (by omega) (by omega) (by omega) ex eb
    by_cases g : 0 ≤ x
    · have g' := leI.mp g
      rw [if_pos g] at ea
      rcases key with k | k
      · omega
      · have : a.1 = x := by
          cases e1 : fX0_firstAgainst x m with
          | none => rw [e1] at ea; cases ea
          | some y =>
            rw [e1, Option.bind_some] at ea
            cases e2 : fX5_tell y m with
            | none => rw [e2] at ea; cases ea
            | some z => rw [e2] at ea; obtain rfl := Option.some.inj ea; rfl
        rw [this]; exact k.2
    · have g' := Int.not_le.mp (fun z => g (leI.mpr z))
      rw [if_neg g] at ea
      obtain rfl := Option.some.inj ea
      rcases key with k | k
      · exact eqI.mpr (by rw [ln2]; exact k.2.symm)
      · omega
