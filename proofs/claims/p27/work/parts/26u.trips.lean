/-! MOST, HOME, SOON -/
theorem v_soon12 (m s : sm_S) (hL : XL m s) (hI : zI m) (hJ : zI s) (h32 : (m.1 32 0).toInt = 16384) (s0 : sm_S) (x : Nat) (wish : Int32) (hn : nC s = nC s0) (hnH : nH s = nH s0) (hC10 : nC s0 ≤ 10) (hR : RELt s0 x 9999 m s) (h31 : (m.1 31 1).toInt = ((2 ^ nH s0 : Nat) : Int)) : ∀ (n : Nat) (v3 v4 v4' v5 : Int32), 0 ≤ v5.toInt → v5.toInt ≤ ((2 ^ nH s0 : Nat) : Int) → ((2 ^ nH s0 : Nat) : Int) - v5.toInt < (n : Int) → ((v3.toInt = -1 ∧ v4.toInt = 65535 ∧ v4'.toInt = FARi) ∨ (0 ≤ v3.toInt ∧ v3.toInt < ((2 ^ nH s0 : Nat) : Int) ∧ v4 = v4' ∧ v4.toInt = (ln1 m v3.toNatClampNeg).toInt / 16 ∧ v4.toInt ≤ 4095)) → TR (fun best b => (best.toInt < 0 ∧ b.1 = (-2 : Int32)) ∨ (0 ≤ best.toInt ∧ best.toInt < ((2 ^ nH s0 : Nat) : Int) ∧ b.1.toInt = (ln1 m best.toNatClampNeg).toInt / 16)) (fX10_quickest_9 n wish v3 v4 v5 m) (fX12_soon_42 n wish v3 v4' v5 s) := by
  have l0 := L0
  have l1 := L1
  have ln1' := Ln1
  have l65535 := L65535
  have hfu := fuE
  have cH : 0 ≤ (s.1 72 6).toInt ∧ (s.1 72 6).toInt ≤ 14 := hJ.1 72 6
  obtain ⟨eH, eC, bH, bC⟩ := t_n hJ
  have hpb := pow_b (H := nH s0) (by omega)
  have hp1 : 0 < 2 ^ nH s0 := Nat.two_pow_pos _
  have eA : fX12_allHedges s = some (((1 : Int32) <<< ((s.1 72 6) &&& 31)) - (1 : Int32)) := rfl
  have eS : (((1 : Int32) <<< ((s.1 72 6) &&& 31)) - (1 : Int32)).toInt = ((2 ^ nH s0 : Nat) : Int) - 1 := by
    have e1 : ((1 : Int32) <<< ((s.1 72 6) &&& 31)).toInt = ((2 ^ (s.1 72 6).toNatClampNeg : Nat) : Int) := a_shlE cH.1 (by omega)
    have e2 : (s.1 72 6).toNatClampNeg = nH s0 := hnH
    rw [e2] at e1
    rw [a_subl L1 (by omega) (by omega), e1]
  intro n
  induction n with
  | zero => intro v3 v4 v4' v5 h0 h1 hn2; have hz : ((0 : Nat) : Int) = 0 := rfl; omega
  | succ n ih =>
    intro v3 v4 v4' v5 h0 h1 hn2 hr
    have hnn : ((n + 1 : Nat) : Int) = (n : Int) + 1 := by omega
    have et := a_tn h0
    unfold fX10_quickest_9 fX12_soon_42
    rw [eA, Option.bind_some]
    refine tl_le (fun g => tr_lt (fun _ => ?_) (fun g' => by omega)) (fun g => tr_lt (fun g' => by omega) (fun _ => ?_))
    · rcases hr with ⟨r1, r2, r3⟩ | ⟨r1, r2, r3, r4, r5⟩
      · refine tr_le (fun z => by omega) (fun _ => t_ret (Or.inl ⟨by omega, rfl⟩))
      · have i1 : zI (sm_w1 s 72 1 (0 : Int32)) := zI.w hJ rfl (show 0 ≤ (0 : Int32).toInt ∧ (0 : Int32).toInt ≤ 24 by omega)
        have e1 : ((sm_w1 s 72 1 (0 : Int32)).1 72 1).toInt = 0 := l0
        refine tr_le (fun _ => ?_) (fun z => by omega)
        refine tr_bd (zX12_enters v3 _ (by omega) i1) (fun m6 _ => t_ret (Or.inr ⟨r1, r2, ?_⟩))
        show v4'.toInt = _
        rw [← r3]; exact r4
    · have e5 : (v5 + (1 : Int32)).toInt = v5.toInt + 1 := a_addl L1 (by omega) (by omega)
      have hlane := ln1_b m v5.toNatClampNeg
      rw [e_at1 hI h0 (by omega), Option.bind_some]
      have hso : Sf (fun r => r.toInt ≤ FARi ∧ (∀ c : Nat, c < nC s → ((-1 : Int32).toInt < 0 ∨ (-1 : Int32).toInt = (c : Int)) → r.toInt ≤ Dc s v5.toNatClampNeg c) ∧ (r.toInt = FARi ∨ ∃ c : Nat, c < nC s ∧ ((-1 : Int32).toInt < 0 ∨ (-1 : Int32).toInt = (c : Int)) ∧ r.toInt = Dc s v5.toNatClampNeg c)) (fX12_soonest v5 (-1 : Int32) s) := by
        have lm := L1000000
        have c3 : 0 ≤ (s.1 72 3).toInt ∧ (s.1 72 3).toInt ≤ 10 := hJ.1 72 3
        exact e_soonest s hJ v5 (-1 : Int32) ⟨h0, by omega⟩ sm_fu (1000000 : Int32) (0 : Int32) (by omega) (by omega) (by omega) (by unfold FARi; omega) (fun c hc => by omega) (Or.inl (by unfold FARi; exact lm))
      obtain ⟨r14, er, hr14⟩ := hso
      have key := ent m s s0 x 9999 (by decide) hn hC10 hR (X := v5.toNatClampNeg) (by omega) (e := (-1 : Int32).toInt) (Or.inl (by rw [ln1']; decide)) hr14
      obtain ⟨u1, u2⟩ := unpack hlane
      obtain ⟨W, eW1, eW2, hW⟩ := s_worth hL hI v5
      rw [eW2, Option.bind_some]
      have skip : TR (fun best b => (best.toInt < 0 ∧ b.1 = (-2 : Int32)) ∨ (0 ≤ best.toInt ∧ best.toInt < ((2 ^ nH s0 : Nat) : Int) ∧ b.1.toInt = (ln1 m best.toNatClampNeg).toInt / 16)) (fX10_quickest_9 n wish v3 v4 (v5 + (1 : Int32)) m) (fX12_soon_42 n wish v3 v4' (v5 + (1 : Int32)) s) := ih v3 v4 v4' (v5 + (1 : Int32)) (by omega) (by omega) (by omega) hr
      have far : ∀ c : Nat, c < nC s0 → 9999 < Dc s v5.toNatClampNeg c → Dc s v5.toNatClampNeg c = FARi := by
        intro c hc hb
        have hp := pN_le v5.toNatClampNeg
        rcases hR.1 v5.toNatClampNeg (by omega) c hc with z | z
        · exact z
        · omega
      refine tl_le (fun g1 => ?_) (fun g1 => ?_)
      · -- no walk over this set
        have hfar : r14.toInt = FARi := by
          rcases key with ⟨-, k⟩ | ⟨k, -⟩
          · rcases hr14.2.2 with z | ⟨c, hc, -, z⟩
            · exact z
            · rw [z]; exact far c (by omega) (by omega)
          · omega
        refine tr_lt (fun _ => skip) (fun _ => ?_)
        rw [er, Option.bind_some]
        refine tr_le (fun _ => skip) (fun z => ?_)
        unfold FARi at hfar hr
        rcases hr with ⟨r1, r2, r3⟩ | ⟨r1, r2, r3, r4, r5⟩
        · omega
        · rw [← r3] at z; omega
      · rcases key with ⟨k, -⟩ | ⟨k1, k2⟩
        · omega
        · have k3 : r14.toInt = (ln1 m v5.toNatClampNeg).toInt / 16 := by
            rcases k2 with ⟨k, -⟩ | ⟨-, k3, -⟩
            · rw [ln1'] at k; omega
            · exact k3
          have e14 : (ln1 m v5.toNatClampNeg) >>> ((4 : Int32) &&& 31) = r14 := eqI.mpr (by rw [u2, k3])
          rw [e14]
          have take : TR (fun best b => (best.toInt < 0 ∧ b.1 = (-2 : Int32)) ∨ (0 ≤ best.toInt ∧ best.toInt < ((2 ^ nH s0 : Nat) : Int) ∧ b.1.toInt = (ln1 m best.toNatClampNeg).toInt / 16)) (fX10_quickest_9 n wish v5 r14 (v5 + (1 : Int32)) m) (fX12_soon_42 n wish v5 r14 (v5 + (1 : Int32)) s) := ih v5 r14 r14 (v5 + (1 : Int32)) (by omega) (by omega) (by omega) (Or.inr ⟨h0, by omega, rfl, k3, by omega⟩)
          rw [er, Option.bind_some, Option.bind_some, eW1, Option.bind_some]
          refine tl_le (fun g2 => ?_) (fun g2 => ?_)
          · refine tr_lt (fun _ => skip) (fun _ => tr_le (fun _ => skip) (fun z => ?_))
            rcases hr with ⟨r1, r2, r3⟩ | ⟨r1, r2, r3, r4, r5⟩
            · omega
            · rw [← r3] at z; omega
          · refine tl_lt (fun g3 => tr_lt (fun _ => skip) (fun z => by omega)) (fun g3 => tr_lt (fun z => by omega) (fun _ => tr_le (fun z => ?_) (fun _ => take)))
            rcases hr with ⟨r1, r2, r3⟩ | ⟨r1, r2, r3, r4, r5⟩
            · unfold FARi at r3; omega
            · rw [← r3] at z; omega
theorem tq_mostBy {x1 x2 back e : Int32} {m s : sm_S} (hL : XL m s) (hI : zI m) (hJ : zI s) (hC : zC s) (h32 : (m.1 32 0).toInt = 16384) (hc : gC s x1) (h2 : 0 ≤ x2.toInt ∧ x2.toInt ≤ 9999) (hbe : (back = 0 ∧ e = (-1 : Int32)) ∨ (back = 1 ∧ e = x1)) : TR (fun a b => a.1 = b.1) ((fX10_explore x1 x2 m).bind fun m4 => (fX10_dearest x1 back m4).bind fun r6 => (fX5_tell r6 m4).bind fun m8 => (fX10_minutesOf r6 m8).bind fun r10 => (fX5_add r10 m8).bind fun m12 => (fX2_worthOf r6 m12).bind fun r14 => some (r14, m12)) (fX12_mostBy x1 x2 e s) := by
  have l0 := L0
  have l1 := L1
  have hfu := fuE
  have z0 : (0 : Int32).toNatClampNeg = 0 := by decide
  have z1 : (1 : Int32).toNatClampNeg = 1 := by decide
  obtain ⟨eH, eC, bH, bC⟩ := t_n hJ
  have hpb := pow_b bH
  have hp1 : 0 < 2 ^ nH s := Nat.two_pow_pos _
  have hc' := hc
  unfold gC at hc'
  have etc := a_tn hc'.1
  obtain ⟨m', s', e1, e2, hT, hR, eS⟩ := e_explore hL hI hJ hC h32 hc h2
  have iB : zI (sm_w1 m 31 1 ((1 : Int32) <<< ((m.1 3 1) &&& 31))) := zI.w hI rfl (show 0 ≤ ((1 : Int32) <<< ((m.1 3 1) &&& 31)).toInt ∧ ((1 : Int32) <<< ((m.1 3 1) &&& 31)).toInt ≤ 16384 by omega)
  have LB : XL (sm_w1 m 31 1 ((1 : Int32) <<< ((m.1 3 1) &&& 31))) s := hL
  have hI' : zI m' := zI.of1 hT.1 iB
  have hL' := TB.L LB hT
  have hJ' := hT.2.2
  obtain ⟨w1, w2, w3, w4⟩ := hT.t
  have h32' : (m'.1 32 0).toInt = 16384 := by rw [hT.1]; exact h32
  have h31' : (m'.1 31 1).toInt = ((2 ^ nH s : Nat) : Int) := by rw [hT.1]; exact eS
  unfold fX12_mostBy
  rw [e1, e2, Option.bind_some, Option.bind_some]
  -- set 0 changes nothing
  obtain ⟨W0, eW1, eW2, hW0⟩ := s_worth hL' hI' (0 : Int32)
  have hw0 : fX2_worthOf (0 : Int32) m' = some 0 := by
    have key : ∀ (n : Nat) (v3 : Int32), 0 ≤ v3.toInt → v3.toInt ≤ (m'.1 3 1).toInt → (m'.1 3 1).toInt ≤ 14 → (m'.1 3 1).toInt - v3.toInt < (n : Int) → fX2_worthOf_4 n (0 : Int32) (0 : Int32) v3 m' = some 0 := by
      intro n
      induction n with
      | zero => intro v3 a b c d; have hz : ((0 : Nat) : Int) = 0 := rfl; omega
      | succ n ih =>
        intro v3 a b c d
        have hnn : ((n + 1 : Nat) : Int) = (n : Int) + 1 := by omega
        unfold fX2_worthOf_4
        by_cases g : (m'.1 3 1) ≤ v3
        · rw [if_pos g]
        · have g' := Int.not_le.mp (fun z => g (leI.mpr z))
          have e3 : (v3 + (1 : Int32)).toInt = v3.toInt + 1 := a_addl L1 (by omega) (by omega)
          have h00 := b_has0 (x := (0 : Int32)) a (show v3.toInt < 32 by omega)
          rw [if_neg g, if_pos (h00.mpr (b_0 _))]
          exact ih _ (by omega) (by omega) c (by omega)
    have c31' : 0 ≤ (m'.1 3 1).toInt ∧ (m'.1 3 1).toInt ≤ 14 := hI'.1 3 1
    exact key sm_fu (0 : Int32) (by omega) (by omega) c31'.2 (by omega)
  have hw00 : W0 = 0 := Option.some.inj (eW1.symm.trans hw0)
  subst hw00
  have hln0 : (ln1 m' 0).toInt / 16 = 0 := by
    rcases hR.2.1 0 hp1 with ⟨-, z⟩ | ⟨c, hcc, y1, y2⟩
    · have := z _ hR.2.2.1; rw [hR.2.2.2] at this; omega
    · have hf := hR.1 0 hp1 c hcc
      have hp0 : pN 0 = 0 := cnt_z (fun w _ => Nat.zero_testBit w)
      rw [hp0] at hf
      rcases hf with z | z
      · unfold FARi at z; omega
      · omega
  have step0 : fX12_mostBy_17 sm_fu x2 e (0 : Int32) (0 : Int32) (0 : Int32) (0 : Int32) s' = fX12_mostBy_17 (sm_fu - 1) x2 e (0 : Int32) (0 : Int32) (0 : Int32) (1 : Int32) s' := by
    obtain ⟨k, hk⟩ : ∃ k : Nat, sm_fu = k + 1 := ⟨199999, rfl⟩
    have hk1 : sm_fu - 1 = k := by omega
    rw [hk1, hk]
    conv => lhs; unfold fX12_mostBy_17
    have cH : 0 ≤ (s'.1 72 6).toInt ∧ (s'.1 72 6).toInt ≤ 14 := hJ'.1 72 6
    have eA : fX12_allHedges s' = some (((1 : Int32) <<< ((s'.1 72 6) &&& 31)) - (1 : Int32)) := rfl
    have hall := all_b cH.1 cH.2
    rw [eA, Option.bind_some, if_neg (fun z => by have := ltI.mp z; omega)]
    have c3 : 0 ≤ (s'.1 72 3).toInt ∧ (s'.1 72 3).toInt ≤ 10 := hJ'.1 72 3
    have lm := L1000000
    obtain ⟨r10, er, hr10⟩ := e_soonest s' hJ' (0 : Int32) e ⟨by omega, by omega⟩ sm_fu (1000000 : Int32) (0 : Int32) (by omega) (by omega) (by omega) (by unfold FARi; omega) (fun c hc => by omega) (Or.inl (by unfold FARi; exact lm))
    have er' : fX12_soonest (0 : Int32) e s' = some r10 := er
    have he : e.toInt < 0 ∨ e.toInt = (x1.toNatClampNeg : Int) := by
      rcases hbe with ⟨-, z⟩ | ⟨-, z⟩
      · exact Or.inl (by rw [z, Ln1]; decide)
      · exact Or.inr (by rw [z]; omega)
    have hr0 : r10.toInt = 0 := by
      rw [z0] at hr10
      have a := hr10.2.1 x1.toNatClampNeg (by omega) he
      rw [hR.2.2.2] at a
      rcases hr10.2.2 with z | ⟨c, hcc, -, z⟩
      · unfold FARi at z; omega
      · have hf := hR.1 0 hp1 c (by omega)
        rcases hf with y | y
        · unfold FARi at y; omega
        · omega
    rw [er', Option.bind_some, if_pos (leI.mpr (by omega)), eW2, Option.bind_some]
    rw [if_neg (show ¬ ((0 : Int32) < (0 : Int32) - (0 : Int32)) by decide), if_pos (show ((0 : Int32) - (0 : Int32)) = 0 by decide), if_pos (leI.mpr (by omega))]
    rfl
  rw [step0]
  have obt : ∃ k : Nat, sm_fu = k + 1 := ⟨199999, rfl⟩
  have hTR : TR (fun best b => fX2_worthOf best m' = some b.1 ∧ 0 ≤ best.toInt ∧ best.toInt < ((2 ^ nH s : Nat) : Int)) (fX10_dearest_9 sm_fu x1 back (0 : Int32) (0 : Int32) (1 : Int32) m') (fX12_mostBy_17 (sm_fu - 1) x2 e (0 : Int32) (0 : Int32) (0 : Int32) (1 : Int32) s') := by
    have hk1 : ((sm_fu - 1 : Nat) : Int) = 199999 := by have : sm_fu = 200000 := rfl; omega
    exact v_most12 m' s' hL' hI' hJ' h32' s x1 x2 back e h2 w4 w3 bC hR hc'.1 h31' hbe sm_fu (sm_fu - 1) (0 : Int32) (0 : Int32) (0 : Int32) (1 : Int32) (by omega) (by omega) ⟨by omega, by omega⟩ (by omega) (by omega) hw0 (by omega) (by rw [z0]; omega)
  unfold fX10_dearest
  obtain ⟨best, b, eb1, eb2, hb1, hb2, hb3⟩ := hTR
  rw [eb1, eb2, Option.bind_some]
  refine tl_bd (zX5_tell best m' hI') (fun m8 h8 => ?_)
  obtain ⟨-, i8, F8⟩ := h8
  have e328 : (m8.1 32 0).toInt = 16384 := by rw [F8 32 0 rfl]; exact h32'
  unfold fX10_minutesOf
  rw [e_at1 i8 hb2 (by omega), Option.bind_some, Option.bind_some]
  refine tl_bd (zX5_add _ m8 i8) (fun m12 h12 => ?_)
  obtain ⟨-, i12, F12⟩ := h12
  have L12 : XL m12 s' := hL'.fr (Fr.trans (Fr.sub F8 rfl) F12 rfl : Fr [(14, 1), (15, 999)] m' m12) (Fr.refl (W := [])) rfl
  obtain ⟨W, q1, q2, -⟩ := s_worth L12 i12 best
  obtain ⟨W', q3, q4, -⟩ := s_worth hL' hI' best
  have eW : W = W' := Option.some.inj (q2.symm.trans q4)
  rw [q1, Option.bind_some]
  refine t_ret ?_
  show W = b.1
  rw [eW]
  exact Option.some.inj (q3.symm.trans hb1)
theorem tq_most {x1 x2 : Int32} {m s : sm_S} (hR : RX m s) (hI : zI m) (hJ : zI s) (hC : zC s) (h32 : (m.1 32 0).toInt = 16384) (back e : Int32) (hbe : (back = 0 ∧ e = (-1 : Int32)) ∨ (back = 1 ∧ e = x1)) : TR (fun a b => a.1 = b.1) (fX11_mostWorth x1 x2 back m) ((fX12_isCorner x1 (sm_w1 s 72 0 (0 : Int32))).bind fun r2 => if r2 = 0 then (some ((-1 : Int32), (sm_w1 s 72 0 (0 : Int32)))) else ((fX12_in (x2).toInt64 (0 : Int64) (9999 : Int64) (sm_w1 s 72 0 (0 : Int32))).bind fun r4 => if r4 = 0 then (some ((-1 : Int32), (sm_w1 s 72 0 (0 : Int32)))) else ((fX12_mostBy x1 x2 e (sm_w1 s 72 0 (0 : Int32))).bind fun r6 => some (r6.1, r6.2)))) := by
  have l0 := L0
  have l9999 := L9999
  have ll0 := LL0
  have ll9999 := LL9999
  have hL : XL m (sm_w1 s 72 0 (0 : Int32)) := hR.2.1
  have hC0 : zC (sm_w1 s 72 0 (0 : Int32)) := hC
  have i0 : zI (sm_w1 s 72 0 (0 : Int32)) := zI.w hJ rfl (show 0 ≤ (0 : Int32).toInt ∧ (0 : Int32).toInt ≤ 1 by omega)
  have e30 := hL.corner
  have ex2 : x2.toInt64.toInt = x2.toInt := Int32.toInt_toInt64 _
  unfold fX11_mostWorth
  refine tl_bd (zX2_hasCorner x1 m hI) (fun p hp => ?_)
  obtain ⟨-, -, hp⟩ := hp
  refine tr_bd (zX12_isCorner x1 _ i0) (fun q hq => ?_)
  obtain ⟨-, -, hq⟩ := hq
  refine tl_eq (fun g => tr_eq (fun _ => t_ret rfl) (fun g' => by omega)) (fun g => tr_eq (fun g' => by omega) (fun _ => ?_))
  refine tr_bd (zX12_in _ _ _ _ (by omega) i0) (fun u hu => ?_)
  obtain ⟨-, -, hu⟩ := hu
  refine tl_lt (fun g2 => tr_eq (fun _ => t_ret rfl) (fun g' => by omega)) (fun g2 => ?_)
  refine tl_le (fun g3 => tr_eq (fun g' => by omega) (fun _ => ?_)) (fun g3 => tr_eq (fun _ => t_ret rfl) (fun g' => by omega))
  have hgc : gC (sm_w1 s 72 0 (0 : Int32)) x1 := ⟨by omega, by omega⟩
  obtain ⟨a, b, ea, eb, hab⟩ := tq_mostBy (x2 := x2) hL hI i0 hC0 h32 hgc ⟨by omega, by omega⟩ hbe
  rw [ea, eb, Option.bind_some]
  exact t_ret hab
theorem tn_most {x1 x2 : Int32} {m s : sm_S} (hR : RX m s) (hI : zI m) (hJ : zI s) (hC : zC s) (h32 : (m.1 32 0).toInt = 16384) : TR (fun a b => a.1 = b.1) (fX11_most x1 x2 m) (fX12_most x1 x2 s) := by
  unfold fX11_most fX12_most
  obtain ⟨a, b, ea, eb, hab⟩ := tq_most (x1 := x1) (x2 := x2) hR hI hJ hC h32 (0 : Int32) (-1 : Int32) (Or.inl ⟨rfl, rfl⟩)
  rw [ea, eb, Option.bind_some]
  exact t_ret hab
theorem tn_home {x1 x2 : Int32} {m s : sm_S} (hR : RX m s) (hI : zI m) (hJ : zI s) (hC : zC s) (h32 : (m.1 32 0).toInt = 16384) : TR (fun a b => a.1 = b.1) (fX11_home x1 x2 m) (fX12_home x1 x2 s) := by
  unfold fX11_home fX12_home
  obtain ⟨a, b, ea, eb, hab⟩ := tq_most (x1 := x1) (x2 := x2) hR hI hJ hC h32 (1 : Int32) x1 (Or.inr ⟨rfl, rfl⟩)
  rw [ea, eb, Option.bind_some]
  exact t_ret hab
theorem tell_2 {x : Int32} {m m' : sm_S} (h : fX5_tell x m = some m') : m'.2 = m.2 := by
  unfold fX5_tell fX5_clear at h
  rw [Option.bind_some] at h
  obtain ⟨m2, e2, h⟩ := tds h
  obtain rfl := Option.some.inj h
  unfold fX5_add at e2
  split at e2
  · obtain rfl := Option.some.inj e2; rfl
  · split at e2
    · obtain rfl := Option.some.inj e2; rfl
    · cases e2
theorem tn_soon {x1 x2 : Int32} {m s : sm_S} (hR : RX m s) (hI : zI m) (hJ : zI s) (hC : zC s) (h32 : (m.1 32 0).toInt = 16384) : TR (fun a b => a.1 = b.1) (fX11_soon x1 x2 m) (fX12_soon x1 x2 s) := by
  have l0 := L0
  have ln1' := Ln1
  have l200 : (200 : Int32).toInt = 200 := by decide
  have l9999 := L9999
  have l65535 := L65535
  have lm := L1000000
  have hfu := fuE
  have ll0 := LL0
  have ll200 : (200 : Int64).toInt = 200 := by decide
  have hL : XL m (sm_w1 s 72 0 (0 : Int32)) := hR.2.1
  have hC0 : zC (sm_w1 s 72 0 (0 : Int32)) := hC
  have i0 : zI (sm_w1 s 72 0 (0 : Int32)) := zI.w hJ rfl (show 0 ≤ (0 : Int32).toInt ∧ (0 : Int32).toInt ≤ 1 by omega)
  have e30 := hL.corner
  have ex2 : x2.toInt64.toInt = x2.toInt := Int32.toInt_toInt64 _
  unfold fX11_soon fX12_soon
  refine tl_bd (zX2_hasCorner x1 m hI) (fun p hp => ?_)
  obtain ⟨-, -, hp⟩ := hp
  refine tr_bd (zX12_isCorner x1 _ i0) (fun q hq => ?_)
  obtain ⟨-, -, hq⟩ := hq
  refine tl_eq (fun g => tr_eq (fun _ => t_ret rfl) (fun g' => by omega)) (fun g => tr_eq (fun g' => by omega) (fun _ => ?_))
  refine tr_bd (zX12_in _ _ _ _ (by omega) i0) (fun u hu => ?_)
  obtain ⟨-, -, hu⟩ := hu
  refine tl_lt (fun g2 => tr_eq (fun _ => t_ret rfl) (fun g' => by omega)) (fun g2 => ?_)
  refine tl_le (fun g3 => tr_eq (fun g' => by omega) (fun _ => ?_)) (fun g3 => tr_eq (fun _ => t_ret rfl) (fun g' => by omega))
  have hgc : gC (sm_w1 s 72 0 (0 : Int32)) x1 := ⟨by omega, by omega⟩
  obtain ⟨eH, eC, bH, bC⟩ := t_n i0
  have hpb := pow_b bH
  have hp1 : 0 < 2 ^ nH (sm_w1 s 72 0 (0 : Int32)) := Nat.two_pow_pos _
  obtain ⟨m', s', e1, e2, hT, hRt, eS⟩ := e_explore hL hI i0 hC0 h32 hgc (lim := (9999 : Int32)) ⟨by omega, by omega⟩
  have iB : zI (sm_w1 m 31 1 ((1 : Int32) <<< ((m.1 3 1) &&& 31))) := zI.w hI rfl (show 0 ≤ ((1 : Int32) <<< ((m.1 3 1) &&& 31)).toInt ∧ ((1 : Int32) <<< ((m.1 3 1) &&& 31)).toInt ≤ 16384 by omega)
  have LB : XL (sm_w1 m 31 1 ((1 : Int32) <<< ((m.1 3 1) &&& 31))) (sm_w1 s 72 0 (0 : Int32)) := hL
  have hI' : zI m' := zI.of1 hT.1 iB
  have hL' := TB.L LB hT
  have hJ' := hT.2.2
  obtain ⟨w1, w2, w3, w4⟩ := hT.t
  have h32' : (m'.1 32 0).toInt = 16384 := by rw [hT.1]; exact h32
  have h31' : (m'.1 31 1).toInt = ((2 ^ nH (sm_w1 s 72 0 (0 : Int32)) : Nat) : Int) := by rw [hT.1]; exact eS
  rw [l9999] at hRt
  rw [e1, e2, Option.bind_some, Option.bind_some]
  unfold fX10_quickest
  obtain ⟨best, b, eb1, eb2, hb⟩ := v_soon12 m' s' hL' hI' hJ' h32' (sm_w1 s 72 0 (0 : Int32)) x1.toNatClampNeg x2 w4 w3 bC hRt h31' sm_fu (-1 : Int32) (65535 : Int32) (1000000 : Int32) (0 : Int32) (by omega) (by omega) (by omega) (Or.inl ⟨ln1', l65535, lm⟩)
  rw [eb1, eb2, Option.bind_some]
  refine tl_le (fun g5 => ?_) (fun g5 => ?_)
  · rcases hb with ⟨h1, -⟩ | ⟨h1, h2, h3⟩
    · omega
    · refine tl_bd (s_self (zX5_tell best m' hI')) (fun m8 h8 => ?_)
      obtain ⟨⟨-, i8, F8⟩, e8⟩ := h8
      have e328 : (m8.1 32 0).toInt = 16384 := by rw [F8 32 0 rfl]; exact h32'
      unfold fX10_minutesOf
      rw [e_at1 i8 h1 (by omega), Option.bind_some, Option.bind_some]
      refine t_ret (eqI.mpr ?_)
      obtain ⟨u1, u2⟩ := unpack (ln1_b m8 best.toNatClampNeg)
      show ((ln1 m8 best.toNatClampNeg) >>> ((4 : Int32) &&& 31)).toInt = b.1.toInt
      have e82 : ln1 m8 best.toNatClampNeg = ln1 m' best.toNatClampNeg := by unfold ln1; rw [tell_2 e8]
      rw [u2, h3, e82]
  · rcases hb with ⟨h1, h2⟩ | ⟨h1, -⟩
    · exact t_ret h2.symm
    · omega
