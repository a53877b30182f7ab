/-! closed, open -/
theorem s_lg {m s : sm_S} (hL : XL m s) (hI : zI m) (hJ : zI s) (hK : (m.1 29 0).toInt = 3072) {x1 O : Int32} (h1 : 0 ≤ x1.toInt ∧ x1.toInt ≤ 2) (hO : cX O) (hOC : ∀ i : Nat, bt O i = true → i < nC s) (eO : fX2_oddCorners (((1 : Int32) <<< ((m.1 3 1) &&& 31)) - (1 : Int32)) m = some O) : Sf (fun r => r.1.toInt = GTv s x1.toNatClampNeg O) (fX4_leastGrass x1 m) := by
  have l0 := L0
  have hfu := fuE
  unfold fX4_leastGrass fX2_everyHedge
  rw [Option.bind_some, eO, Option.bind_some]
  refine v_lg13 hJ hO hOC x1 h1 sm_fu (0 : Int32) m hL hI hK (by omega) (by omega) (by omega) (fun p Y hY hs hp => ?_)
  have := hY.1
  omega
theorem v_pb51 : ∀ (n : Nat) (v3 : Int32) (m : sm_S) (r : Int32 × sm_S), fX12_pairsBy_51 n v3 m = some r → r.1 = m.1 72 46 := by
  intro n
  induction n with
  | zero => intro v3 m r h; cases h
  | succ n ih =>
    intro v3 m r h
    unfold fX12_pairsBy_51 at h
    split at h
    · obtain rfl := Option.some.inj h; rfl
    · split at h
      · obtain ⟨m11, e11, h⟩ := tds h
        rw [ih _ _ _ h]
        unfold fX12_enters at e11
        split at e11
        · obtain rfl := Option.some.inj e11; rfl
        · cases e11
      · cases h
theorem s_pb (m0 : sm_S) {m : sm_S} (hI : zI m) (hF : Fr wX12_pairsBy m0 m) : Sf (fun r => r.1 = m.1 72 46) (fX12_pairsBy_51 sm_fu (0 : Int32) (sm_w1 m 72 1 (0 : Int32))) := by
  have l0 := L0
  have hfu := fuE
  have i1 : zI (sm_w1 m 72 1 (0 : Int32)) := zI.w hI rfl (show 0 ≤ (0 : Int32).toInt ∧ (0 : Int32).toInt ≤ 24 by omega)
  have e1 : ((sm_w1 m 72 1 (0 : Int32)).1 72 1).toInt = (0 : Int32).toInt := rfl
  obtain ⟨r, e, -⟩ := zX12_pairsBy_51 m0 sm_fu (0 : Int32) (sm_w1 m 72 1 (0 : Int32)) (show 0 ≤ (0 : Int32).toInt ∧ (0 : Int32).toInt ≤ 10 ∧ 10 - (0 : Int32).toInt < (sm_fu : Int) ∧ ((sm_w1 m 72 1 (0 : Int32)).1 72 1).toInt ≤ (0 : Int32).toInt by omega) i1 (Fr.w hF rfl)
  have q := v_pb51 _ _ _ _ e
  exact ⟨r, e, q⟩
theorem GTv_same {s s' : sm_S} (h74 : ∀ j, s'.1 74 j = s.1 74 j) (h75 : ∀ j, s'.1 75 j = s.1 75 j) (h3 : s'.1 72 3 = s.1 72 3) (o : Nat) (X : Int32) : GTv s' o X = GTv s o X := by
  have e1 : grV s' = grV s := by
    funext a b
    unfold grV grI fX12_grassOf
    rw [h74, h74, h75, h75]
  have e2 : nC s' = nC s := by
    unfold nC
    rw [h3]
  unfold GTv
  rw [e1, e2]
def oddv (s : sm_S) (O : Int32) : Prop := cX O ∧ ∀ v : Nat, v < 32 → bt O v = par (ta s) (tb s) (fun _ => true) v (nH s)
theorem oddv.uni {s : sm_S} {x y : Int32} (h : oddv s x) (k : oddv s y) : x = y := b_ext (fun i hi => (h.2 i hi).trans (k.2 i hi).symm)
theorem s_pairs {s : sm_S} (hJ : zI s) (hC : zC s) {x1 : Int32} (h1 : 0 ≤ x1.toInt ∧ x1.toInt ≤ 2) : Sf (fun r => (¬ HTv s (((1 : Int32) <<< ((s.1 72 6) &&& 31)) - (1 : Int32)) ∧ r.1.toInt = -2) ∨ (HTv s (((1 : Int32) <<< ((s.1 72 6) &&& 31)) - (1 : Int32)) ∧ ∃ O, oddv s O ∧ r.1.toInt = cbv (-1) 0 (GTv s (if O = 0 then 0 else x1.toNatClampNeg) O))) (fX12_pairsBy x1 s) := by
  have l0 := L0
  have ln1 := Ln1
  have ln2 : (-2 : Int32).toInt = -2 := by decide
  have z0 : (0 : Int32).toNatClampNeg = 0 := by decide
  have cH : 0 ≤ (s.1 72 6).toInt ∧ (s.1 72 6).toInt ≤ 14 := hJ.1 72 6
  obtain ⟨eH, eC, bH, bC⟩ := t_n hJ
  unfold fX12_pairsBy
  refine s_bd (th_hang12 hJ hC) (fun r2 h2 => ?_)
  obtain ⟨h2, j2, F2⟩ := h2
  refine s_eq (fun g => s_ret (Or.inl ⟨?_, ln2⟩)) (fun g => ?_)
  · rcases h2 with ⟨z, -⟩ | ⟨-, z⟩
    · omega
    · exact z
  · have hT : HTv s (((1 : Int32) <<< ((s.1 72 6) &&& 31)) - (1 : Int32)) := by
      rcases h2 with ⟨-, z⟩ | ⟨z, -⟩
      · exact z
      · omega
    have i1 : zI (sm_w1 (sm_w1 r2.2 72 46 (-1 : Int32)) 72 42 (0 : Int32)) := zI.w (zI.w j2 rfl (rg _)) rfl (show 0 ≤ (0 : Int32).toInt ∧ (0 : Int32).toInt ≤ 10 by omega)
    have f1 : Fr [(72, 42), (72, 46), (94, 999)] s (sm_w1 (sm_w1 r2.2 72 46 (-1 : Int32)) 72 42 (0 : Int32)) := Fr.w (Fr.w (Fr.sub F2 rfl) rfl) rfl
    have q46 : ((sm_w1 (sm_w1 r2.2 72 46 (-1 : Int32)) 72 42 (0 : Int32)).1 72 46).toInt = -1 := ln1
    have q42 : ((sm_w1 (sm_w1 r2.2 72 46 (-1 : Int32)) 72 42 (0 : Int32)).1 72 42).toInt = 0 := l0
    generalize sm_w1 (sm_w1 r2.2 72 46 (-1 : Int32)) 72 42 (0 : Int32) = S at i1 f1 q46 q42 ⊢
    have C1 : zC S := hC.fr f1 rfl
    have e6 : S.1 72 6 = s.1 72 6 := f1 72 6 rfl
    have e3 : S.1 72 3 = s.1 72 3 := f1 72 3 rfl
    obtain ⟨w1, w2, w3⟩ := t_same (m := s) (m' := S) (fun j => f1 76 j rfl) (fun j => f1 77 j rfl) e6
    have hA := all_b cH.1 cH.2
    have hall : ∀ h : Nat, h < nH s → bt (((1 : Int32) <<< ((s.1 72 6) &&& 31)) - (1 : Int32)) h = true := fun h hh => by
      rw [b_all cH.1 (by omega) (by omega)]; exact decide_eq_true (by omega)
    unfold fX12_allHedges
    rw [Option.bind_some, e6]
    refine s_bd (zod _ S hA i1 C1) (fun r6 h6 => ?_)
    obtain ⟨hX, hb⟩ := h6
    have hod : oddv s r6 := ⟨hX, fun v hv => by rw [hb v hv, w1, w2, w3]; exact par_cg (fun k hk => hall k hk)⟩
    have hpc := pc_le r6
    have run : ∀ x : Int32, 0 ≤ x.toInt ∧ x.toInt ≤ 2 → x.toNatClampNeg = (if r6 = 0 then 0 else x1.toNatClampNeg) → Sf (fun r => r.1.toInt = cbv (-1) 0 (GTv s (if r6 = 0 then 0 else x1.toNatClampNeg) r6)) ((fX12_couples r6 x (0 : Int32) S).bind fun m13 => fX12_pairsBy_51 sm_fu (0 : Int32) (sm_w1 m13 72 1 (0 : Int32))) := fun x hx hxx => by
      unfold fX12_couples
      refine s_bd (s_both (zX12_couplesN 12 r6 x (0 : Int32) S ⟨hX.1, hX.2, hx.1, hx.2, by omega, by omega⟩ i1) (v_cN S i1 12 r6 x (0 : Int32) S hX hx (by omega) (by omega) (by omega) (by omega) i1 Fr.refl)) (fun m13 h13 => ?_)
      obtain ⟨⟨j13, F13, -⟩, v13⟩ := h13
      refine s_mono (s_pb S j13 (Fr.sub F13 rfl)) (fun r hr => ?_)
      rw [hr, v13, q46, l0, ← hxx]
      exact congrArg _ (GTv_same (fun j => f1 74 j rfl) (fun j => f1 75 j rfl) e3 _ _)
    refine s_eq (fun g6 => ?_) (fun g6 => ?_)
    · have e : r6 = 0 := eqI.mpr g6
      refine s_mono (run (0 : Int32) (by omega) (by rw [if_pos e]; exact z0)) (fun r hr => Or.inr ⟨hT, r6, hod, hr⟩)
    · have e : r6 ≠ 0 := fun z => g6 (congrArg Int32.toInt z)
      refine s_mono (run x1 h1 (by rw [if_neg e])) (fun r hr => Or.inr ⟨hT, r6, hod, hr⟩)
theorem xs_cnt {f : Nat → Bool} : ∀ N : Nat, ∃ q, cnt f N = 2 * q + (if xs f N = true then 1 else 0)
  | 0 => ⟨0, rfl⟩
  | N + 1 => by
    obtain ⟨q, hq⟩ := xs_cnt (f := f) N
    have e1 : cnt f (N + 1) = cnt f N + (if f N = true then 1 else 0) := rfl
    have e2 : xs f (N + 1) = (xs f N ^^ f N) := rfl
    rw [e1, e2, hq]
    cases xs f N <;> cases f N
    · exact ⟨q, rfl⟩
    · exact ⟨q, rfl⟩
    · exact ⟨q, rfl⟩
    · exact ⟨q + 1, by show 2 * q + 1 + 1 = 2 * (q + 1) + 0; omega⟩
/-- an even number of corners is odd -/
theorem oddv.even {s : sm_S} (hJ : zI s) (hC : zC s) {O : Int32} (h : oddv s O) : ∃ q, pc O = 2 * q := by
  obtain ⟨eH, eC, bH, bC⟩ := t_n hJ
  have hh := hand (P := fun _ => true) (a := ta s) (b := tb s) (S := fun _ => true) (N := 10) (n := nH s) (fun _ _ _ => rfl) (fun k hk _ => by have := t_ends hJ hC hk; omega)
  obtain ⟨q, hq⟩ := xs_cnt (f := fun v => true && par (ta s) (tb s) (fun _ => true) v (nH s)) 10
  rw [hh, if_neg (by decide)] at hq
  refine ⟨q, ?_⟩
  have : pc O = cnt (fun v => true && par (ta s) (tb s) (fun _ => true) v (nH s)) 10 := cnt_cong (fun v hv => by rw [h.2 v (by omega), Bool.true_and])
  omega
theorem oddv.lt {s : sm_S} (hJ : zI s) (hC : zC s) {O : Int32} (h : oddv s O) : ∀ i : Nat, bt O i = true → i < nC s := fun i hi => by
  rcases Nat.lt_or_ge i (nC s) with q | q
  · exact q
  · rcases Nat.lt_or_ge i 32 with z | z
    · rw [h.2 i z, par_hi (fun k hk _ => ⟨(t_ends hJ hC hk).2.2.1, (t_ends hJ hC hk).2.2.2.1⟩) q] at hi; cases hi
    · rw [b_big z] at hi; cases hi
theorem oddv.fin {s : sm_S} (hJ : zI s) (hC : zC s) {O : Int32} (h : oddv s O) {o : Nat} (ho : o = 0 ∨ o = 2) (hz : O = 0 → o = 0) : GTv s o O < 65535 := by
  obtain ⟨eH, eC, bH, bC⟩ := t_n hJ
  obtain ⟨q, hq⟩ := oddv.even hJ hC h
  refine Gr_fin bC (grV_b hJ) 10 o O h.1 (oddv.lt hJ hC h) (pc_le O) ?_
  rcases ho with ho | ho
  · exact ⟨q, by omega⟩
  · have : O ≠ 0 := fun z => by have := hz z; omega
    obtain ⟨i, hi, hb⟩ := cX_ex h.1 this
    have := pc_pos hi hb
    exact ⟨q - 1, by omega⟩
theorem s_oddv {m s : sm_S} (hL : XL m s) (hI : zI m) (hJ : zI s) (hC : zC s) : Sf (fun r => oddv s r) (fX2_oddCorners (((1 : Int32) <<< ((m.1 3 1) &&& 31)) - (1 : Int32)) m) := by
  have c31 : 0 ≤ (m.1 3 1).toInt ∧ (m.1 3 1).toInt ≤ 14 := hI.1 3 1
  have e31 := hL.hedge
  obtain ⟨eH, eC, bH, bC⟩ := t_n hJ
  have hall : ∀ h : Nat, h < nH s → bt (((1 : Int32) <<< ((m.1 3 1) &&& 31)) - (1 : Int32)) h = true := fun h hh => by
    rw [b_all c31.1 (by omega) (by omega)]; exact decide_eq_true (by omega)
  refine s_mono (s_odd11 hL hI hJ hC _) (fun r hr => ?_)
  have hb : ∀ v : Nat, v < 32 → bt r v = par (ta s) (tb s) (fun _ => true) v (nH s) := fun v hv => by
    rw [hr v hv]; exact par_cg (fun k hk => hall k hk)
  have h10 : ∀ v : Nat, v < 32 → bt r v = true → v < 10 := fun v hv hbv => by
    rcases Nat.lt_or_ge v 10 with q | q
    · exact q
    · rw [hb v hv, par_hi (N := 10) (fun k hk _ => by have := t_ends hJ hC hk; omega) q] at hbv; cases hbv
  have h0 : 0 ≤ r.toInt := by
    rcases Int.lt_or_le r.toInt 0 with q | q
    · have hm : bt r 31 = true := by
        unfold bt
        have e : r.toBitVec.msb = true := by
          rw [BitVec.msb_eq_toInt, Int32.toInt_toBitVec]
          exact decide_eq_true q
        rw [BitVec.msb_eq_getLsbD_last] at e
        exact e
      have := h10 31 (by decide) hm
      omega
    · exact q
  have := g_pow (X := r) (k := 10) h0 h10
  have e : ((2 ^ 10 : Nat) : Int) = 1024 := by decide
  exact ⟨⟨h0, by omega⟩, hb⟩
theorem cls_lg {m s : sm_S} (hL : XL m s) (hI : zI m) (hJ : zI s) (hC : zC s) (hK : NK m) {x1 : Int32} (h1 : 0 ≤ x1.toInt ∧ x1.toInt ≤ 2) {O : Int32} (hO : oddv s O) : Sf (fun r => r.1.toInt = GTv s x1.toNatClampNeg O) (fX4_leastGrass x1 m) := by
  obtain ⟨r, er, hr⟩ := s_oddv hL hI hJ hC
  obtain rfl := hr.uni hO
  exact s_lg hL hI hJ hK.2.1 h1 hO.1 (oddv.lt hJ hC hO) er
theorem cb_fin {t : Int} (h : t < 65535) : cbv (-1) 0 t = t := by
  rw [cb_b h (by decide)]; omega
theorem tn_closed {m s : sm_S} (hR : RX m s) (hI : zI m) (hJ : zI s) (hC : zC s) (hK : NK m) : TR (fun a b => a.1 = b.1) (fX11_closed m) (fX12_closed s) := by
  have l0 := L0
  have ln2 : (-2 : Int32).toInt = -2 := by decide
  have z0 : (0 : Int32).toNatClampNeg = 0 := by decide
  have F0 : Fr [(72, 0)] s (sm_w1 s 72 0 (0 : Int32)) := Fr.w Fr.refl rfl
  have i0 : zI (sm_w1 s 72 0 (0 : Int32)) := zI.w hJ rfl (show 0 ≤ (0 : Int32).toInt ∧ (0 : Int32).toInt ≤ 1 by omega)
  have hL0 : XL m (sm_w1 s 72 0 (0 : Int32)) := hR.2.1.fr (W := []) Fr.refl F0 rfl
  have hC0 : zC (sm_w1 s 72 0 (0 : Int32)) := hC.fr F0 rfl
  unfold fX11_closed fX12_closed
  generalize sm_w1 s 72 0 (0 : Int32) = S0 at i0 hL0 hC0 ⊢
  have eAA : m.1 3 1 = S0.1 72 6 := hL0.1.2.1
  refine tr_bd (s_pairs i0 hC0 (x1 := (0 : Int32)) (by omega)) (fun b hb => ?_)
  refine tl_bd (th_hang11 hL0 hI i0 hC0) (fun r2 h2 => ?_)
  rw [eAA] at h2
  refine tl_eq (fun g => t_ret ?_) (fun g => ?_)
  · rcases hb with ⟨-, hb⟩ | ⟨hb, -⟩
    · exact eqI.mpr (by rw [hb]; exact ln2)
    · rcases h2 with ⟨h2, -⟩ | ⟨-, h2⟩
      · omega
      · exact absurd hb h2
  · rcases hb with ⟨hb, -⟩ | ⟨-, O, hO, hb⟩
    · rcases h2 with ⟨-, h2⟩ | ⟨h2, -⟩
      · exact absurd h2 hb
      · omega
    · refine tl_bd (cls_lg hL0 hI i0 hC0 hK (x1 := (0 : Int32)) (by omega) hO) (fun r4 h4 => t_ret (eqI.mpr ?_))
      rw [z0] at h4 hb
      rw [show (if O = 0 then 0 else 0) = (0 : Nat) by split <;> rfl, cb_fin (oddv.fin i0 hC0 hO (Or.inl rfl) (fun _ => rfl))] at hb
      exact h4.trans hb.symm
theorem tn_open {m s : sm_S} (hR : RX m s) (hI : zI m) (hJ : zI s) (hC : zC s) (hK : NK m) : TR (fun a b => a.1 = b.1) (fX11_open m) (fX12_open s) := by
  have l0 := L0
  have l2 := L2
  have ln2 : (-2 : Int32).toInt = -2 := by decide
  have z0 : (0 : Int32).toNatClampNeg = 0 := by decide
  have z2 : (2 : Int32).toNatClampNeg = 2 := by decide
  have F0 : Fr [(72, 0)] s (sm_w1 s 72 0 (0 : Int32)) := Fr.w Fr.refl rfl
  have i0 : zI (sm_w1 s 72 0 (0 : Int32)) := zI.w hJ rfl (show 0 ≤ (0 : Int32).toInt ∧ (0 : Int32).toInt ≤ 1 by omega)
  have hL0 : XL m (sm_w1 s 72 0 (0 : Int32)) := hR.2.1.fr (W := []) Fr.refl F0 rfl
  have hC0 : zC (sm_w1 s 72 0 (0 : Int32)) := hC.fr F0 rfl
  unfold fX11_open fX12_open fX2_everyHedge
  generalize sm_w1 s 72 0 (0 : Int32) = S0 at i0 hL0 hC0 ⊢
  have eAA : m.1 3 1 = S0.1 72 6 := hL0.1.2.1
  refine tr_bd (s_pairs i0 hC0 (x1 := (2 : Int32)) (by omega)) (fun b hb => ?_)
  refine tl_bd (th_hang11 hL0 hI i0 hC0) (fun r2 h2 => ?_)
  rw [eAA] at h2
  refine tl_eq (fun g => t_ret ?_) (fun g => ?_)
  · rcases hb with ⟨-, hb⟩ | ⟨hb, -⟩
    · exact eqI.mpr (by rw [hb]; exact ln2)
    · rcases h2 with ⟨h2, -⟩ | ⟨-, h2⟩
      · omega
      · exact absurd hb h2
  · rcases hb with ⟨hb, -⟩ | ⟨-, O, hO, hb⟩
    · rcases h2 with ⟨-, h2⟩ | ⟨h2, -⟩
      · exact absurd h2 hb
      · omega
    · rw [Option.bind_some]
      refine tl_bd (s_oddv hL0 hI i0 hC0) (fun r6 h6 => ?_)
      obtain rfl := h6.uni hO
      rw [z2] at hb
      refine tl_eq (fun g6 => ?_) (fun g6 => ?_)
      · have e : r6 = 0 := eqI.mpr g6
        refine tl_bd (cls_lg hL0 hI i0 hC0 hK (x1 := (0 : Int32)) (by omega) hO) (fun r4 h4 => t_ret (eqI.mpr ?_))
        rw [z0] at h4
        rw [if_pos e, cb_fin (oddv.fin i0 hC0 hO (Or.inl rfl) (fun _ => rfl))] at hb
        exact h4.trans hb.symm
      · have e : r6 ≠ 0 := fun z => g6 (congrArg Int32.toInt z)
        refine tl_bd (cls_lg hL0 hI i0 hC0 hK (x1 := (2 : Int32)) (by omega) hO) (fun r4 h4 => t_ret (eqI.mpr ?_))
        rw [z2] at h4
        rw [if_neg e, cb_fin (oddv.fin i0 hC0 hO (Or.inr rfl) (fun z => absurd z e))] at hb
        exact h4.trans hb.symm
