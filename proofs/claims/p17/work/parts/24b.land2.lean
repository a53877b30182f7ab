/-! a text that is read keeps the land -/
def zL (m : sm_S) : Prop := (∀ j : Nat, (j : Int) < (m.1 72 25).toInt → (m.1 76 j).toInt < (m.1 72 24).toInt ∧ (m.1 77 j).toInt < (m.1 72 24).toInt ∧ (m.1 76 j).toInt ≠ (m.1 77 j).toInt) ∧ (∀ i : Nat, i < 32 → bt (m.1 72 26) i = true → (i : Int) < (m.1 72 25).toInt)
theorem zL.fr {W : List (Nat × Nat)} {m m' : sm_S} (h : zL m) (hF : Fr W m m') (h25 : inW W 72 25 = false) (h26 : inW W 72 26 = false) (n4 : W.all (fun p => and (!(Nat.beq p.1 76)) (!(Nat.beq p.1 77))) = true) (h24 : (m.1 72 24).toInt ≤ (m'.1 72 24).toInt) : zL m' := by
  have f1 := hF 72 25 h25
  have f3 := hF 72 26 h26
  refine ⟨fun j hj => ?_, fun i hi hb => ?_⟩
  · rw [hF 76 j (noC_arr n4 (Or.inl rfl) j), hF 77 j (noC_arr n4 (Or.inr rfl) j)]
    rw [f1] at hj
    have := h.1 j hj
    omega
  · rw [f3] at hb
    rw [f1]
    exact h.2 i hi hb
theorem zX12_readsHedge_L (m : sm_S) (hI : zI m) (hC : zC m) (hL : zL m) : Sf (fun r => (0 ≤ r.1.toInt ∧ r.1.toInt ≤ 1 ∧ (m.1 72 22).toInt ≤ (r.2.1 72 22).toInt) ∧ zI r.2 ∧ Fr wX12_readsHedge m r.2 ∧ zC r.2 ∧ (r.1.toInt = 1 → zL r.2)) (fX12_readsHedge m) := by
  have ck : 0 ≤ (m.1 72 25).toInt ∧ (m.1 72 25).toInt ≤ 14 := hI.1 72 25
  have ek := a_tn (x := m.1 72 25) (by omega)
  have hle := zI.le hI
  obtain ⟨r, e, ⟨p1, p2, p3, -, -, p4, p5⟩, hi, hf, hg⟩ := zX12_readsHedge_j ((m.1 72 25).toNatClampNeg + 1) m (by omega) hI
  have hj : ∀ j : Nat, j ≠ (m.1 72 25).toNatClampNeg → (r.2.1 76 j).toInt = (m.1 76 j).toInt ∧ (r.2.1 77 j).toInt = (m.1 77 j).toInt := by
    intro j hne
    obtain ⟨r', e', ⟨-, -, -, q1, q2, -, -⟩, -⟩ := zX12_readsHedge_j j m hne hI
    have : r' = r := Option.some.inj (e'.symm.trans e)
    subst this
    exact ⟨q1, q2⟩
  have f6 : r.2.1 72 6 = m.1 72 6 := hf 72 6 rfl
  have f3 : r.2.1 72 3 = m.1 72 3 := hf 72 3 rfl
  have f14 : r.2.1 72 14 = m.1 72 14 := hf 72 14 rfl
  refine ⟨r, e, ⟨p1, p2, p3⟩, hi, hf, ⟨fun j hq => ?_, fun i h1 h2 => ?_⟩, fun h1 => ⟨fun j hq => ?_, fun i h2 h3 => ?_⟩⟩
  · rw [f6] at hq
    rw [f3]
    have := hC.1 j hq
    obtain ⟨q1, q2⟩ := hj j (by omega)
    omega
  · rw [f14] at h2
    rw [f6]; exact hC.2 i h1 h2
  · by_cases q : j = (m.1 72 25).toNatClampNeg
    · subst q; omega
    · obtain ⟨q1, q2⟩ := hj j q
      have := hL.1 j (by omega)
      omega
  · have key : ∀ i : Nat, i < 32 → bt (m.1 72 26) i = true → (i : Int) < (r.2.1 72 25).toInt := fun i q1 q2 => by
      have := hL.2 i q1 q2
      omega
    rcases hg with g | g | g
    · rw [g] at h3; exact key i h2 h3
    · rw [g, Int32.or_zero] at h3; exact key i h2 h3
    · rw [g, b_or, b_pow (by omega) (by omega) h2] at h3
      cases h4 : bt (m.1 72 26) i with
      | true => exact key i h2 h4
      | false =>
        rw [h4, Bool.false_or] at h3
        have := of_decide_eq_true h3
        omega
theorem zX12_land2_48 (m0 : sm_S) : ∀ (n : Nat) (v1 v2 v3 v4 : Int32) (m : sm_S), (0 ≤ v1.toInt ∧ v1.toInt ≤ 80 ∧ 0 ≤ v3.toInt ∧ v3.toInt ≤ 1 ∧ 0 ≤ v4.toInt ∧ v4.toInt ≤ 1 ∧ 2 * (81 - (m.1 72 22).toInt) + v4.toInt < (n : Int) ∧ (v4.toInt = 1 → v3.toInt = 1)) → zI m → zC m → (v3.toInt = 1 → zL m) → Fr wX12_land m0 m → Sf (fun r => zI r.2 ∧ zC r.2 ∧ Fr wX12_land m0 r.2) (fX12_land_48 n v1 v2 v3 v4 m) := by
  intro n
  induction n with
  | zero =>
    intro v1 v2 v3 v4 m hp hI hC hL hF
    have c1 : 0 ≤ (m.1 72 22).toInt ∧ (m.1 72 22).toInt ≤ 80 := hI.1 72 22
    omega
  | succ n ih =>
    intro v1 v2 v3 v4 m hp hI hC hL hF
    have hnn : ((n + 1 : Nat) : Int) = (n : Int) + 1 := by omega
    have c1 : 0 ≤ (m.1 72 22).toInt ∧ (m.1 72 22).toInt ≤ 80 := hI.1 72 22
    have c25 : 0 ≤ (m.1 72 25).toInt ∧ (m.1 72 25).toInt ≤ 14 := hI.1 72 25
    have c24 : 0 ≤ (m.1 72 24).toInt ∧ (m.1 72 24).toInt ≤ 10 := hI.1 72 24
    have c14 : 0 ≤ (m.1 72 14).toInt ∧ (m.1 72 14).toInt ≤ 16383 := hI.1 72 14
    have c26 : 0 ≤ (m.1 72 26).toInt ∧ (m.1 72 26).toInt ≤ 16383 := hI.1 72 26
    have c27 : 0 ≤ (m.1 72 27).toInt ∧ (m.1 72 27).toInt ≤ 30 := hI.1 72 27
    have hle := zI.le hI
    have l0 := L0
    have l1 := L1
    have l76 := L76
    have l64 := L64
    have l59 := L59
    unfold fX12_land_48
    refine s_eq (fun h1 => ?_) (fun h1 => ?_)
    · refine s_bd (zX12_faultOf_j v1 (76 : Int32) v3 m (by omega) hI) (fun r4 h4 => ?_)
      refine s_le (fun h2 => ?_) (fun h2 => s_ret ⟨hI, hC, hF⟩)
      have hL1 := hL (by omega)
      have hor := a_or (x := m.1 72 14) (y := m.1 72 26) (p := 16384) 14 (by decide) (by decide) (by omega) (by omega) (by omega) (by omega)
      have key : ∀ w : Int32, 0 ≤ w.toInt ∧ w.toInt ≤ 30 → zI (sm_w1 (sm_w1 (sm_w1 (sm_w1 m 72 3 (m.1 72 24)) 72 6 (m.1 72 25)) 72 14 ((m.1 72 14) ||| (m.1 72 26))) 72 27 w) ∧ zC (sm_w1 (sm_w1 (sm_w1 (sm_w1 m 72 3 (m.1 72 24)) 72 6 (m.1 72 25)) 72 14 ((m.1 72 14) ||| (m.1 72 26))) 72 27 w) := by
        intro w hw
        refine ⟨zI.w (zI.w (zI.w6 (zI.w hI rfl c24) c25 ⟨hle, Int.le_refl _⟩) rfl (show 0 ≤ ((m.1 72 14) ||| (m.1 72 26)).toInt ∧ ((m.1 72 14) ||| (m.1 72 26)).toInt ≤ 16383 by omega)) rfl hw, fun j hj => hL1.1 j hj, fun i q1 q2 => ?_⟩
        have q3 : bt ((m.1 72 14) ||| (m.1 72 26)) i = true := q2
        show (i : Int) < (m.1 72 25).toInt
        rw [b_or] at q3
        cases h5 : bt (m.1 72 14) i with
        | true => have := hC.2 i q1 h5; omega
        | false =>
          rw [h5, Bool.false_or] at q3
          exact hL1.2 i q1 q3
      have f4 : ∀ w : Int32, Fr wX12_land m0 (sm_w1 (sm_w1 (sm_w1 (sm_w1 m 72 3 (m.1 72 24)) 72 6 (m.1 72 25)) 72 14 ((m.1 72 14) ||| (m.1 72 26))) 72 27 w) := fun w => Fr.w (Fr.w (Fr.w (Fr.w hF rfl) rfl) rfl) rfl
      refine s_le (fun h3 => s_ret ⟨(key _ c27).1, (key _ c27).2, f4 _⟩) (fun h3 => s_ret ⟨(key (0 : Int32) (by omega)).1, (key (0 : Int32) (by omega)).2, f4 _⟩)
    · have hv3 : v3.toInt = 1 := by omega
      have hL1 := hL hv3
      refine s_bd (zX12_isAt (64 : Int32) m (by omega) hI) (fun r6 h6 => ?_)
      refine s_eq (fun h7 => ?_) (fun h7 => ?_)
      · refine s_bd (zX12_readsHedge_L m hI hC hL1) (fun r8 h8 => ?_)
        obtain ⟨p8, i8, f8, c8, L8⟩ := h8
        have d22 : 0 ≤ (r8.2.1 72 22).toInt ∧ (r8.2.1 72 22).toInt ≤ 80 := i8.1 72 22
        have F8 : Fr wX12_land m0 r8.2 := Fr.trans hF f8 rfl
        refine s_eq (fun h9 => ?_) (fun h9 => ?_)
        · exact ih v1 (v2 + (1 : Int32)) r8.1 (0 : Int32) r8.2 (by omega) i8 c8 L8 F8
        · have L8' := L8 (by omega)
          refine s_bd (zX12_takes (59 : Int32) r8.2 (by omega) i8) (fun r10 h10 => ?_)
          obtain ⟨p10, i10, f10⟩ := h10
          have c10 := zC.fr c8 f10 rfl
          have e24 : (r10.2.1 72 24).toInt = (r8.2.1 72 24).toInt := congrArg Int32.toInt (f10 72 24 rfl)
          have L10 := zL.fr L8' f10 rfl rfl rfl (by omega)
          have F10 : Fr wX12_land m0 r10.2 := Fr.trans F8 f10 rfl
          have d10 : 0 ≤ (r10.2.1 72 22).toInt ∧ (r10.2.1 72 22).toInt ≤ 80 := i10.1 72 22
          refine s_eq (fun h11 => ?_) (fun h11 => ?_)
          · exact ih v1 (v2 + (1 : Int32)) r8.1 (0 : Int32) r10.2 (by omega) i10 c10 (fun _ => L10) F10
          · exact ih v1 (v2 + (1 : Int32)) r8.1 (1 : Int32) r10.2 (by omega) i10 c10 (fun _ => L10) F10
      · refine s_bd (zX12_readsCorner_j m hI) (fun r12 h12 => ?_)
        obtain ⟨p12, i12, f12⟩ := h12
        have c12 := zC.fr hC f12 rfl
        have L12 := zL.fr hL1 f12 rfl rfl rfl p12.2.2.2
        have F12 : Fr wX12_land m0 r12.2 := Fr.trans hF f12 rfl
        have d12 : 0 ≤ (r12.2.1 72 22).toInt ∧ (r12.2.1 72 22).toInt ≤ 80 := i12.1 72 22
        refine s_eq (fun h9 => ?_) (fun h9 => ?_)
        · exact ih v1 (v2 + (1 : Int32)) r12.1 (0 : Int32) r12.2 (by omega) i12 c12 (fun _ => L12) F12
        · refine s_bd (zX12_takes (59 : Int32) r12.2 (by omega) i12) (fun r14 h14 => ?_)
          obtain ⟨p14, i14, f14⟩ := h14
          have c14 := zC.fr c12 f14 rfl
          have e24 : (r14.2.1 72 24).toInt = (r12.2.1 72 24).toInt := congrArg Int32.toInt (f14 72 24 rfl)
          have L14 := zL.fr L12 f14 rfl rfl rfl (by omega)
          have F14 : Fr wX12_land m0 r14.2 := Fr.trans F12 f14 rfl
          have d14 : 0 ≤ (r14.2.1 72 22).toInt ∧ (r14.2.1 72 22).toInt ≤ 80 := i14.1 72 22
          refine s_eq (fun h11 => ?_) (fun h11 => ?_)
          · exact ih v1 (v2 + (1 : Int32)) r12.1 (0 : Int32) r14.2 (by omega) i14 c14 (fun _ => L14) F14
          · exact ih v1 (v2 + (1 : Int32)) r12.1 (1 : Int32) r14.2 (by omega) i14 c14 (fun _ => L14) F14
theorem zX12_land2 (m : sm_S) (hI : zI m) (hC : zC m) : Sf (fun r => zI r.2 ∧ zC r.2 ∧ Fr wX12_land m r.2) (fX12_land m) := by
  have hfu := fuE
  have l0 := L0
  have l1 := L1
  have l76 := L76
  have i1 : zI (sm_w1 m 72 0 (0 : Int32)) := zI.w hI rfl (show 0 ≤ (0 : Int32).toInt ∧ (0 : Int32).toInt ≤ 1 by omega)
  have f1 : Fr wX12_land m (sm_w1 m 72 0 (0 : Int32)) := Fr.w Fr.refl rfl
  unfold fX12_land
  refine s_bd (zX12_begins (76 : Int32) _ (by omega) i1) (fun r2 h2 => ?_)
  obtain ⟨p2, i2, f2⟩ := h2
  have F2 : Fr wX12_land m r2.2 := Fr.trans f1 f2 rfl
  have C1 : zC (sm_w1 m 72 0 (0 : Int32)) := ⟨fun j hj => hC.1 j hj, fun i q1 q2 => hC.2 i q1 q2⟩
  have C2 : zC r2.2 := zC.fr C1 f2 rfl
  have d6 : 0 ≤ (r2.2.1 72 6).toInt ∧ (r2.2.1 72 6).toInt ≤ 14 := i2.1 72 6
  have d3 : 0 ≤ (r2.2.1 72 3).toInt ∧ (r2.2.1 72 3).toInt ≤ 10 := i2.1 72 3
  have d22 : 0 ≤ (r2.2.1 72 22).toInt ∧ (r2.2.1 72 22).toInt ≤ 80 := i2.1 72 22
  have hle := zI.le i2
  have i3 : zI (sm_w1 (sm_w1 (sm_w1 r2.2 72 24 (r2.2.1 72 3)) 72 25 (r2.2.1 72 6)) 72 26 (0 : Int32)) := zI.w (zI.w25 (zI.w i2 rfl d3) d6 ⟨Int.le_refl _, hle⟩) rfl (show 0 ≤ (0 : Int32).toInt ∧ (0 : Int32).toInt ≤ 16383 by omega)
  have f3 : Fr wX12_land m (sm_w1 (sm_w1 (sm_w1 r2.2 72 24 (r2.2.1 72 3)) 72 25 (r2.2.1 72 6)) 72 26 (0 : Int32)) := Fr.w (Fr.w (Fr.w F2 rfl) rfl) rfl
  have C3 : zC (sm_w1 (sm_w1 (sm_w1 r2.2 72 24 (r2.2.1 72 3)) 72 25 (r2.2.1 72 6)) 72 26 (0 : Int32)) := ⟨fun j hj => C2.1 j hj, fun i q1 q2 => C2.2 i q1 q2⟩
  have L3 : zL (sm_w1 (sm_w1 (sm_w1 r2.2 72 24 (r2.2.1 72 3)) 72 25 (r2.2.1 72 6)) 72 26 (0 : Int32)) := ⟨fun j hj => C2.1 j hj, fun i q1 q2 => by
    have : bt (0 : Int32) i = true := q2
    rw [b_0] at this; cases this⟩
  have e22 : ((sm_w1 (sm_w1 (sm_w1 r2.2 72 24 (r2.2.1 72 3)) 72 25 (r2.2.1 72 6)) 72 26 (0 : Int32)).1 72 22).toInt = (r2.2.1 72 22).toInt := rfl
  refine s_le (fun h3 => ?_) (fun h3 => ?_)
  · exact zX12_land2_48 m sm_fu r2.1 (0 : Int32) (1 : Int32) (0 : Int32) _ (by omega) i3 C3 (fun _ => L3) f3
  · exact zX12_land2_48 m sm_fu r2.1 (0 : Int32) (1 : Int32) (1 : Int32) _ (by omega) i3 C3 (fun _ => L3) f3
