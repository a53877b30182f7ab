/-! THE LAW: every round is safe, and the answers that it compares are the same -/
theorem zL_hedge (x1 x2 : Int32) (m : sm_S) (hI : zI m) : Sf (fun r => True ∧ zI r.2 ∧ Fr [] m r.2) (fL_hedge x1 x2 m) := by
  have key : (∃ r, fX11_hedge x1 x2 m = some r) ∨ (fX11_hedge x1 x2 m = none ∧ gX11_hedge x1 x2 m = some ()) := by
    obtain ⟨r2, e, hr⟩ := zX2_hasHedge x1 m hI
    have cc : 0 ≤ (m.1 3 1).toInt ∧ (m.1 3 1).toInt ≤ 14 := hI.1 3 1
    unfold fX11_hedge gX11_hedge
    rw [e, Option.bind_some, Option.bind_some]
    have l0 := L0
    by_cases h1 : r2 = 0
    · rw [if_pos h1, if_pos h1]; exact Or.inr ⟨rfl, rfl⟩
    · rw [if_neg h1, if_neg h1]
      have h1' : r2.toInt ≠ 0 := fun q => h1 (Int32.toInt_inj.mp (by rw [q]; exact L0.symm))
      by_cases h2 : x2 < 0
      · rw [if_pos h2, if_pos h2]; exact Or.inr ⟨rfl, rfl⟩
      · rw [if_neg h2, if_neg h2]
        by_cases h3 : x2 ≤ (8 : Int32)
        · rw [if_pos h3, if_pos h3]
          refine Or.inl ?_
          have hx : 0 ≤ x1.toInt ∧ x1.toInt < (14 : Int) := by omega
          have k1 : ∀ a : Nat, Sf (fun _ : Int32 => True) (if sm_ix x1 14 then (some (m.1 a (x1).toNatClampNeg)) else none) := fun a => s_ix hx (s_ret trivial)
          have key2 : Sf (fun _ : Int32 => True) (if x2 = (0 : Int32) then (if sm_ix x1 14 then (some (m.1 6 (x1).toNatClampNeg)) else none) else (if x2 = (1 : Int32) then (if sm_ix x1 14 then (some (m.1 7 (x1).toNatClampNeg)) else none) else (if x2 = (2 : Int32) then (if sm_ix x1 14 then (some (m.1 8 (x1).toNatClampNeg)) else none) else (if x2 = (3 : Int32) then (if sm_ix x1 14 then (some (m.1 9 (x1).toNatClampNeg)) else none) else (if x2 = (4 : Int32) then (if sm_ix x1 14 then (some (m.1 10 (x1).toNatClampNeg)) else none) else (if x2 = (5 : Int32) then (if sm_ix x1 14 then (some (m.1 11 (x1).toNatClampNeg)) else none) else (if x2 = (6 : Int32) then (if sm_ix x1 14 then (some (m.1 12 (x1).toNatClampNeg)) else none) else (if x2 = (7 : Int32) then (if sm_ix x1 14 then (if (m.1 13 (x1).toNatClampNeg) = 0 then (some (0 : Int32)) else (some (1 : Int32))) else none) else ((fX6_isFresh x1 m).bind fun r20 => if r20 = 0 then (some (0 : Int32)) else (some (1 : Int32))))))))))) := by
            refine s_if (fun _ => k1 6) (fun _ => ?_)
            refine s_if (fun _ => k1 7) (fun _ => ?_)
            refine s_if (fun _ => k1 8) (fun _ => ?_)
            refine s_if (fun _ => k1 9) (fun _ => ?_)
            refine s_if (fun _ => k1 10) (fun _ => ?_)
            refine s_if (fun _ => k1 11) (fun _ => ?_)
            refine s_if (fun _ => k1 12) (fun _ => ?_)
            refine s_if (fun _ => s_ix hx (s_if (fun _ => s_ret trivial) (fun _ => s_ret trivial))) (fun _ => ?_)
            exact s_bd (zX6_isFresh x1 m (by omega) hI) (fun _ _ => s_if (fun _ => s_ret trivial) (fun _ => s_ret trivial))
          obtain ⟨r, er, -⟩ := key2
          exact ⟨r, er⟩
        · rw [if_neg h3, if_neg h3]; exact Or.inr ⟨rfl, rfl⟩
  unfold fL_hedge
  rcases key with ⟨r, e⟩ | ⟨e, e2⟩
  · rw [e]; exact ⟨_, rfl, trivial, hI, Fr.refl⟩
  · rw [e, e2]; exact ⟨_, rfl, trivial, hI, Fr.refl⟩
theorem zL_reach (x1 : Int32) (m : sm_S) (hI : zI m) : Sf (fun r => True ∧ zI r.2 ∧ Fr [] m r.2) (fL_reach x1 m) := by
  have key : (∃ r, fX11_reach x1 m = some r) ∨ (fX11_reach x1 m = none ∧ gX11_reach x1 m = some ()) := by
    have hfu := fuE
    have l0 := L0
    have ln1 := Ln1
    have cc : 0 ≤ (m.1 3 1).toInt ∧ (m.1 3 1).toInt ≤ 14 := hI.1 3 1
    unfold fX11_reach gX11_reach
    by_cases h1 : (m.1 3 0) = 0
    · rw [if_pos h1, if_pos h1]; exact Or.inr ⟨rfl, rfl⟩
    · rw [if_neg h1, if_neg h1]
      by_cases h2 : x1 = (-1 : Int32)
      · rw [if_pos h2]
        have h2' : x1.toInt = -1 := by rw [h2]; exact Ln1
        obtain ⟨r, e, -⟩ := zX11_reach_41 sm_fu x1 (0 : Int32) (0 : Int32) m (by omega) hI
        exact Or.inl ⟨r, e⟩
      · rw [if_neg h2, if_neg h2]
        obtain ⟨r2, e, hr⟩ := zX2_hasHedge x1 m hI
        rw [e, Option.bind_some, Option.bind_some]
        by_cases h3 : r2 = 0
        · rw [if_pos h3, if_pos h3]; exact Or.inr ⟨rfl, rfl⟩
        · rw [if_neg h3]
          have h3' : r2.toInt ≠ 0 := fun q => h3 (Int32.toInt_inj.mp (by rw [q]; exact L0.symm))
          obtain ⟨r, e, -⟩ := zX11_reach_41 sm_fu x1 (0 : Int32) (0 : Int32) m (by omega) hI
          exact Or.inl ⟨r, e⟩
  unfold fL_reach
  rcases key with ⟨r, e⟩ | ⟨e, e2⟩
  · rw [e]; exact ⟨_, rfl, trivial, hI, Fr.refl⟩
  · rw [e, e2]; exact ⟨_, rfl, trivial, hI, Fr.refl⟩
theorem zL_row (x1 : Int32) (m : sm_S) (hI : zI m) : Sf (fun r => True ∧ zI r.2 ∧ Fr [] m r.2) (fL_row x1 m) := by
  have key : (∃ r, fX11_row x1 m = some r) ∨ (fX11_row x1 m = none ∧ gX11_row x1 m = some ()) := by
    have l0 := L0
    have cc : 0 ≤ (m.1 14 1).toInt ∧ (m.1 14 1).toInt ≤ 14 := hI.1 14 1
    unfold fX11_row gX11_row
    by_cases h1 : x1 < 0
    · rw [if_pos h1, if_pos h1]; exact Or.inr ⟨rfl, rfl⟩
    · rw [if_neg h1, if_neg h1]
      have h1' : 0 ≤ x1.toInt := by
        have := Int.not_lt.mp (fun q => h1 (Int32.lt_iff_toInt_lt.mpr q))
        omega
      by_cases h2 : x1 < (m.1 14 1)
      · rw [if_pos h2]
        have h2' := Int32.lt_iff_toInt_lt.mp h2
        obtain ⟨r, e, -⟩ : Sf (fun _ : Int32 => True) (if sm_ix x1 14 then (some (m.1 15 (x1).toNatClampNeg)) else none) := s_ix (by omega) (s_ret trivial)
        exact Or.inl ⟨r, e⟩
      · rw [if_neg h2, if_neg h2]; exact Or.inr ⟨rfl, rfl⟩
  unfold fL_row
  rcases key with ⟨r, e⟩ | ⟨e, e2⟩
  · rw [e]; exact ⟨_, rfl, trivial, hI, Fr.refl⟩
  · rw [e, e2]; exact ⟨_, rfl, trivial, hI, Fr.refl⟩
def LI (m : sm_S) : Prop := zI m ∧ zC m
set_option maxRecDepth 20000 in
set_option maxHeartbeats 8000000 in
theorem law_ok (Ls : Nat) (hL : Ls ≤ 2560) (xs : Nat → Int32) : ∀ (n : Nat) (v4 : Int32) (m : sm_S), (0 ≤ v4.toInt ∧ v4.toInt ≤ (Ls : Int) ∧ (Ls : Int) - v4.toInt < 5 * (n : Int)) → LI m → RV m → Sf (fun _ => True) (fL_law Ls xs n v4 m) := by
  intro n
  induction n with
  | zero => intro v4 m hp hI hR; omega
  | succ n ih =>
    intro v4 m hp hI hR
    have hnn : ((n + 1 : Nat) : Int) = (n : Int) + 1 := by omega
    have eL : (Int32.ofNat Ls).toInt = (Ls : Int) := nI_toInt (by omega)
    have e0 : ((Int32.ofNat Ls) - (5 : Int32)).toInt = (Ls : Int) - 5 := (a_subl L5 (by omega) (by omega)).trans (by rw [eL])
    unfold fL_law
    refine s_lt (fun _ => s_ret trivial) (fun h5 => ?_)
    have e1 : (v4 + (1 : Int32)).toInt = v4.toInt + 1 := a_addl L1 (by omega) (by omega)
    have e2 : (v4 + (2 : Int32)).toInt = v4.toInt + 2 := a_addl L2 (by omega) (by omega)
    have e3 : (v4 + (3 : Int32)).toInt = v4.toInt + 3 := a_addl L3 (by omega) (by omega)
    have e4 : (v4 + (4 : Int32)).toInt = v4.toInt + 4 := a_addl L4 (by omega) (by omega)
    have e5 : (v4 + (5 : Int32)).toInt = v4.toInt + 5 := a_addl L5 (by omega) (by omega)
    refine s_ix (by omega) ?_
    refine s_if (fun hk => ?_) (fun hk => ?_)
    · refine s_ix (by omega) ?_
      refine s_bd (s_self (zX11_sign (xs ((v4 + (1 : Int32))).toNatClampNeg) m hI.1)) (fun r5 h0 => ?_)
      have i0 : LI r5.2 := ⟨h0.1.2.1, zC.fr hI.2 h0.1.2.2 (by decide +kernel)⟩
      refine s_ix (by omega) ?_
      refine s_bd (s_self (zX12_sign (xs ((v4 + (1 : Int32))).toNatClampNeg) r5.2 i0.1)) (fun r8 h1 => ?_)
      have i1 : LI r8.2 := ⟨h1.1.2.1, zC.fr i0.2 h1.1.2.2 (by decide +kernel)⟩
      have q1 : RV r8.2 := RV.sp hR (R_sign hR.1 hI.1 h0.2 h0.1.2.2 h1.2 h1.1.2.2).1 h0.1.2.2 h1.1.2.2 (by decide +kernel) (by decide +kernel)
      exact ih (v4 + (5 : Int32)) r8.2 (by omega) i1 q1
    · refine s_if (fun hk => ?_) (fun hk => ?_)
      · refine s_ix (by omega) ?_
        refine s_bd (s_self (zX11_end (xs ((v4 + (1 : Int32))).toNatClampNeg) m hI.1)) (fun r12 h0 => ?_)
        have i0 : LI r12.2 := ⟨h0.1.2.1, zC.fr hI.2 h0.1.2.2 (by decide +kernel)⟩
        refine s_ix (by omega) ?_
        refine s_bd (s_self (zX12_end (xs ((v4 + (1 : Int32))).toNatClampNeg) r12.2 i0.1)) (fun r15 h1 => ?_)
        have i1 : LI r15.2 := ⟨h1.1.2.1, zC.fr i0.2 h1.1.2.2 (by decide +kernel)⟩
        have q1 : RV r15.2 := RV.sp hR (R_end hR.1 i0.1 h0.2 h0.1.2.2 h1.2 h1.1.2.2).1 h0.1.2.2 h1.1.2.2 (by decide +kernel) (by decide +kernel)
        exact ih (v4 + (5 : Int32)) r15.2 (by omega) i1 q1
      · refine s_if (fun hk => ?_) (fun hk => ?_)
        · refine s_bd (s_self (zX11_land m hI.1)) (fun r18 h0 => ?_)
          have i0 : LI r18.2 := ⟨h0.1.2.1, zC.fr hI.2 h0.1.2.2 (by decide +kernel)⟩
          refine s_bd (s_self (zX12_land2 r18.2 i0.1 i0.2)) (fun r20 h1 => ?_)
          have i1 : LI r20.2 := ⟨h1.1.1, h1.1.2.1⟩
          have q1 : RV r20.2 := RV.land hR (R_land hR.1 hI.1 i0.1 i0.2 h0.2 h0.1.2.2 h0.1.1.2.2 h1.2 h1.1.2.2).1 hI.1 i0.1 i0.2 h0.2 h0.1.2.2 h1.1.2.2
          exact ih (v4 + (5 : Int32)) r20.2 (by omega) i1 q1
        · refine s_if (fun hk => ?_) (fun hk => ?_)
          · refine s_ix (by omega) ?_
            refine s_ix (by omega) ?_
            refine s_bd (s_self (zL_hedge (xs ((v4 + (1 : Int32))).toNatClampNeg) (xs ((v4 + (2 : Int32))).toNatClampNeg) m hI.1)) (fun r24 h0 => ?_)
            have i0 : LI r24.2 := ⟨h0.1.2.1, zC.fr hI.2 h0.1.2.2 (by decide +kernel)⟩
            have q0 : RV r24.2 := hR.fr h0.1.2.2 (by decide +kernel)
            refine s_ix (by omega) ?_
            refine s_ix (by omega) ?_
            refine s_bd (s_self (zX12_hedge (xs ((v4 + (1 : Int32))).toNatClampNeg) (xs ((v4 + (2 : Int32))).toNatClampNeg) r24.2 i0.1)) (fun r29 h1 => ?_)
            have i1 : LI r29.2 := ⟨h1.1.2.1, zC.fr i0.2 h1.1.2.2 (by decide +kernel)⟩
            have q1 : RV r29.2 := q0.fr h1.1.2.2 (by decide +kernel)
            exact ih (v4 + (5 : Int32)) r29.2 (by omega) i1 q1
          · refine s_if (fun hk => ?_) (fun hk => ?_)
            · refine s_ix (by omega) ?_
              refine s_ix (by omega) ?_
              refine s_bd (s_self (zX11_grass (xs ((v4 + (1 : Int32))).toNatClampNeg) (xs ((v4 + (2 : Int32))).toNatClampNeg) m hI.1)) (fun r34 h0 => ?_)
              refine s_ix (by omega) ?_
              refine s_ix (by omega) ?_
              refine s_bd (s_self (zX12_grass (xs ((v4 + (1 : Int32))).toNatClampNeg) (xs ((v4 + (2 : Int32))).toNatClampNeg) m hI.1)) (fun r38 h1 => ?_)
              have i1 : LI r38.2 := ⟨h1.1.2.1, zC.fr hI.2 h1.1.2.2 (by decide +kernel)⟩
              have q1 : RV r38.2 := hR.fr h1.1.2.2 (by decide +kernel)
              exact ih (v4 + (5 : Int32)) r38.2 (by omega) i1 q1
            · refine s_if (fun hk => ?_) (fun hk => ?_)
              · refine s_ix (by omega) ?_
                refine s_ix (by omega) ?_
                refine s_ix (by omega) ?_
                refine s_bd (s_self (zX11_set (xs ((v4 + (1 : Int32))).toNatClampNeg) (xs ((v4 + (2 : Int32))).toNatClampNeg) (xs ((v4 + (3 : Int32))).toNatClampNeg) m hI.1)) (fun r44 h0 => ?_)
                have i0 : LI r44.2 := ⟨h0.1.2.1, zC.fr hI.2 h0.1.2.2 (by decide +kernel)⟩
                refine s_ix (by omega) ?_
                refine s_ix (by omega) ?_
                refine s_ix (by omega) ?_
                refine s_bd (s_self (zX12_set (xs ((v4 + (1 : Int32))).toNatClampNeg) (xs ((v4 + (2 : Int32))).toNatClampNeg) (xs ((v4 + (3 : Int32))).toNatClampNeg) r44.2 i0.1)) (fun r49 h1 => ?_)
                have i1 : LI r49.2 := ⟨h1.1.2.1, zC.fr i0.2 h1.1.2.2 (by decide +kernel)⟩
                have q1 : RV r49.2 := RV.sp hR (R_set hR.1 hI.1 i0.1 h0.2 h0.1.2.2 h1.2 h1.1.2.2).1 h0.1.2.2 h1.1.2.2 (by decide +kernel) (by decide +kernel)
                exact ih (v4 + (5 : Int32)) r49.2 (by omega) i1 q1
              · refine s_if (fun hk => ?_) (fun hk => ?_)
                · refine s_ix (by omega) ?_
                  refine s_ix (by omega) ?_
                  refine s_ix (by omega) ?_
                  refine s_ix (by omega) ?_
                  refine s_bd (s_self (zX11_sheet (xs ((v4 + (1 : Int32))).toNatClampNeg) (xs ((v4 + (2 : Int32))).toNatClampNeg) (xs ((v4 + (3 : Int32))).toNatClampNeg) (xs ((v4 + (4 : Int32))).toNatClampNeg) m hI.1)) (fun r56 h0 => ?_)
                  have i0 : LI r56.2 := ⟨h0.1.2.1, zC.fr hI.2 h0.1.2.2 (by decide +kernel)⟩
                  refine s_ix (by omega) ?_
                  refine s_ix (by omega) ?_
                  refine s_ix (by omega) ?_
                  refine s_ix (by omega) ?_
                  refine s_bd (s_self (zX12_sheet (xs ((v4 + (1 : Int32))).toNatClampNeg) (xs ((v4 + (2 : Int32))).toNatClampNeg) (xs ((v4 + (3 : Int32))).toNatClampNeg) (xs ((v4 + (4 : Int32))).toNatClampNeg) r56.2 i0.1)) (fun r62 h1 => ?_)
                  have i1 : LI r62.2 := ⟨h1.1.2.1, zC.fr i0.2 h1.1.2.2 (by decide +kernel)⟩
                  have q1 : RV r62.2 := RV.sp hR (R_sheet hR.1 hI.1 i0.1 h0.2 h0.1.2.2 h1.2 h1.1.2.2).1 h0.1.2.2 h1.1.2.2 (by decide +kernel) (by decide +kernel)
                  exact ih (v4 + (5 : Int32)) r62.2 (by omega) i1 q1
                · refine s_if (fun hk => ?_) (fun hk => ?_)
                  · refine s_ix (by omega) ?_
                    refine s_bd (s_self (zX11_walk (xs ((v4 + (1 : Int32))).toNatClampNeg) m hI.1)) (fun r66 h0 => ?_)
                    have i0 : LI r66.2 := ⟨h0.1.2.1, zC.fr hI.2 h0.1.2.2 (by decide +kernel)⟩
                    have q0 : RV r66.2 := hR.fr h0.1.2.2 (by decide +kernel)
                    refine s_ix (by omega) ?_
                    refine s_bd (s_self (zX12_walk (xs ((v4 + (1 : Int32))).toNatClampNeg) r66.2 i0.1)) (fun r69 h1 => ?_)
                    have i1 : LI r69.2 := ⟨h1.1.2.1, zC.fr i0.2 h1.1.2.2 (by decide +kernel)⟩
                    have q1 : RV r69.2 := q0.fr h1.1.2.2 (by decide +kernel)
                    exact ih (v4 + (5 : Int32)) r69.2 (by omega) i1 q1
                  · refine s_if (fun hk => ?_) (fun hk => ?_)
                    · refine s_ix (by omega) ?_
                      refine s_bd (s_self (zX11_rest (xs ((v4 + (1 : Int32))).toNatClampNeg) m hI.1)) (fun r73 h0 => ?_)
                      have i0 : LI r73.2 := ⟨h0.1.2.1, zC.fr hI.2 h0.1.2.2 (by decide +kernel)⟩
                      have q0 : RV r73.2 := hR.fr h0.1.2.2 (by decide +kernel)
                      refine s_ix (by omega) ?_
                      refine s_bd (s_self (zX12_rest (xs ((v4 + (1 : Int32))).toNatClampNeg) r73.2 i0.1)) (fun r76 h1 => ?_)
                      have i1 : LI r76.2 := ⟨h1.1.2.1, zC.fr i0.2 h1.1.2.2 (by decide +kernel)⟩
                      have q1 : RV r76.2 := q0.fr h1.1.2.2 (by decide +kernel)
                      exact ih (v4 + (5 : Int32)) r76.2 (by omega) i1 q1
                    · refine s_if (fun hk => ?_) (fun hk => ?_)
                      · refine s_bd (s_self (zX11_undo m hI.1)) (fun r79 h0 => ?_)
                        have i0 : LI r79.2 := ⟨h0.1.2.1, zC.fr hI.2 h0.1.2.2 (by decide +kernel)⟩
                        have q0 : RV r79.2 := hR.fr h0.1.2.2 (by decide +kernel)
                        refine s_bd (s_self (zX12_undo r79.2 i0.1)) (fun r81 h1 => ?_)
                        have i1 : LI r81.2 := ⟨h1.1.2.1, zC.fr i0.2 h1.1.2.2 (by decide +kernel)⟩
                        have q1 : RV r81.2 := q0.fr h1.1.2.2 (by decide +kernel)
                        exact ih (v4 + (5 : Int32)) r81.2 (by omega) i1 q1
                      · refine s_if (fun hk => ?_) (fun hk => ?_)
                        · refine s_ix (by omega) ?_
                          refine s_bd (s_self (zX11_go (xs ((v4 + (1 : Int32))).toNatClampNeg) m hI.1)) (fun r85 h0 => ?_)
                          have i0 : LI r85.2 := ⟨h0.1.2.1, zC.fr hI.2 h0.1.2.2 (by decide +kernel)⟩
                          have q0 : RV r85.2 := hR.fr h0.1.2.2 (by decide +kernel)
                          refine s_ix (by omega) ?_
                          refine s_bd (s_self (zX12_go (xs ((v4 + (1 : Int32))).toNatClampNeg) r85.2 i0.1)) (fun r88 h1 => ?_)
                          have i1 : LI r88.2 := ⟨h1.1.2.1, zC.fr i0.2 h1.1.2.2 (by decide +kernel)⟩
                          have q1 : RV r88.2 := q0.fr h1.1.2.2 (by decide +kernel)
                          exact ih (v4 + (5 : Int32)) r88.2 (by omega) i1 q1
                        · refine s_if (fun hk => ?_) (fun hk => ?_)
                          · refine s_bd (s_self (zX11_can m hI.1)) (fun r91 h0 => ?_)
                            refine s_bd (s_self (zX12_can m hI.1)) (fun r93 h1 => ?_)
                            have i1 : LI r93.2 := ⟨h1.1.2.1, zC.fr hI.2 h1.1.2.2 (by decide +kernel)⟩
                            have q1 : RV r93.2 := hR.fr h1.1.2.2 (by decide +kernel)
                            exact ih (v4 + (5 : Int32)) r93.2 (by omega) i1 q1
                          · refine s_if (fun hk => ?_) (fun hk => ?_)
                            · refine s_ix (by omega) ?_
                              refine s_bd (s_self (zX11_tour (xs ((v4 + (1 : Int32))).toNatClampNeg) m hI.1)) (fun r97 h0 => ?_)
                              have i0 : LI r97.2 := ⟨h0.1.2.1, zC.fr hI.2 h0.1.2.2 (by decide +kernel)⟩
                              refine s_ix (by omega) ?_
                              refine s_bd (s_self (zX12_tour (xs ((v4 + (1 : Int32))).toNatClampNeg) r97.2 i0.1)) (fun r100 h1 => ?_)
                              have i1 : LI r100.2 := ⟨h1.1.2.1, zC.fr i0.2 h1.1.2.2 (by decide +kernel)⟩
                              have q1 : RV r100.2 := RV.tour hR (R_tour hR.1 h0.1.2.2 h0.1.1 h1.1.2.2 h1.1.1) hI.1 i0.1 h0.2 h0.1.2.2 h1.2 h1.1.2.2
                              exact ih (v4 + (5 : Int32)) r100.2 (by omega) i1 q1
                            · refine s_if (fun hk => ?_) (fun hk => ?_)
                              · refine s_ix (by omega) ?_
                                refine s_bd (s_self (zX11_look (xs ((v4 + (1 : Int32))).toNatClampNeg) m hI.1)) (fun r104 h0 => ?_)
                                have i0 : LI r104.2 := ⟨h0.1.2.1, zC.fr hI.2 h0.1.2.2 (by decide +kernel)⟩
                                have q0 : RV r104.2 := hR.fr h0.1.2.2 (by decide +kernel)
                                refine s_ix (by omega) ?_
                                refine s_bd (s_self (zX12_look (xs ((v4 + (1 : Int32))).toNatClampNeg) r104.2 i0.1)) (fun r107 h1 => ?_)
                                have i1 : LI r107.2 := ⟨h1.1.2.1, zC.fr i0.2 h1.1.2.2 (by decide +kernel)⟩
                                have q1 : RV r107.2 := q0.fr h1.1.2.2 (by decide +kernel)
                                exact ih (v4 + (5 : Int32)) r107.2 (by omega) i1 q1
                              · refine s_if (fun hk => ?_) (fun hk => ?_)
                                · refine s_ix (by omega) ?_
                                  refine s_bd (s_self (zX11_meets (xs ((v4 + (1 : Int32))).toNatClampNeg) m hI.1)) (fun r111 h0 => ?_)
                                  have i0 : LI r111.2 := ⟨h0.1.2.1, zC.fr hI.2 h0.1.2.2 (by decide +kernel)⟩
                                  have q0 : RV r111.2 := hR.fr h0.1.2.2 (by decide +kernel)
                                  refine s_ix (by omega) ?_
                                  refine s_bd (s_self (zX12_meets (xs ((v4 + (1 : Int32))).toNatClampNeg) r111.2 i0.1)) (fun r114 h1 => ?_)
                                  have i1 : LI r114.2 := ⟨h1.1.2.1, zC.fr i0.2 h1.1.2.2 (by decide +kernel)⟩
                                  have q1 : RV r114.2 := q0.fr h1.1.2.2 (by decide +kernel)
                                  exact ih (v4 + (5 : Int32)) r114.2 (by omega) i1 q1
                                · refine s_if (fun hk => ?_) (fun hk => ?_)
                                  · refine s_bd (s_self (zX11_apart m hI.1)) (fun r117 h0 => ?_)
                                    have i0 : LI r117.2 := ⟨h0.1.2.1, zC.fr hI.2 h0.1.2.2 (by decide +kernel)⟩
                                    have q0 : RV r117.2 := hR.fr h0.1.2.2 (by decide +kernel)
                                    refine s_bd (s_self (zX12_apart r117.2 i0.1)) (fun r119 h1 => ?_)
                                    have i1 : LI r119.2 := ⟨h1.1.2.1, zC.fr i0.2 h1.1.2.2 (by decide +kernel)⟩
                                    have q1 : RV r119.2 := q0.fr h1.1.2.2 (by decide +kernel)
                                    refine s_if (fun _ => ?_) (fun hne => absurd (TR.eq (m := sm_n0) (s := sm_n0) (tv_apart (RR.mid hR.1 h0.1.2.2 (by decide +kernel)) (XV.mid hR.2 h0.1.2.2 (by decide +kernel)) hI.1 i0.1) h0.2 h1.2) hne)
                                    exact ih (v4 + (5 : Int32)) r119.2 (by omega) i1 q1
                                  · refine s_if (fun hk => ?_) (fun hk => ?_)
                                    · refine s_ix (by omega) ?_
                                      refine s_bd (s_self (zX11_season (xs ((v4 + (1 : Int32))).toNatClampNeg) m hI.1)) (fun r123 h0 => ?_)
                                      have i0 : LI r123.2 := ⟨h0.1.2.1, zC.fr hI.2 h0.1.2.2 (by decide +kernel)⟩
                                      have q0 : RV r123.2 := hR.fr h0.1.2.2 (by decide +kernel)
                                      refine s_ix (by omega) ?_
                                      refine s_bd (s_self (zX12_season (xs ((v4 + (1 : Int32))).toNatClampNeg) r123.2 i0.1)) (fun r126 h1 => ?_)
                                      have i1 : LI r126.2 := ⟨h1.1.2.1, zC.fr i0.2 h1.1.2.2 (by decide +kernel)⟩
                                      have q1 : RV r126.2 := q0.fr h1.1.2.2 (by decide +kernel)
                                      exact ih (v4 + (5 : Int32)) r126.2 (by omega) i1 q1
                                    · refine s_if (fun hk => ?_) (fun hk => ?_)
                                      · refine s_bd (s_self (zX11_odd m hI.1)) (fun r129 h0 => ?_)
                                        have i0 : LI r129.2 := ⟨h0.1.2.1, zC.fr hI.2 h0.1.2.2 (by decide +kernel)⟩
                                        have q0 : RV r129.2 := hR.fr h0.1.2.2 (by decide +kernel)
                                        refine s_bd (s_self (zX12_odd r129.2 i0.1)) (fun r131 h1 => ?_)
                                        have i1 : LI r131.2 := ⟨h1.1.2.1, zC.fr i0.2 h1.1.2.2 (by decide +kernel)⟩
                                        have q1 : RV r131.2 := q0.fr h1.1.2.2 (by decide +kernel)
                                        exact ih (v4 + (5 : Int32)) r131.2 (by omega) i1 q1
                                      · refine s_if (fun hk => ?_) (fun hk => ?_)
                                        · refine s_bd (s_self (zX11_men m hI.1)) (fun r134 h0 => ?_)
                                          have i0 : LI r134.2 := ⟨h0.1.2.1, zC.fr hI.2 h0.1.2.2 (by decide +kernel)⟩
                                          have q0 : RV r134.2 := hR.fr h0.1.2.2 (by decide +kernel)
                                          refine s_bd (s_self (zX12_men r134.2 i0.1)) (fun r136 h1 => ?_)
                                          have i1 : LI r136.2 := ⟨h1.1.2.1, zC.fr i0.2 h1.1.2.2 (by decide +kernel)⟩
                                          have q1 : RV r136.2 := q0.fr h1.1.2.2 (by decide +kernel)
                                          exact ih (v4 + (5 : Int32)) r136.2 (by omega) i1 q1
                                        · refine s_if (fun hk => ?_) (fun hk => ?_)
                                          · refine s_ix (by omega) ?_
                                            refine s_bd (s_self (zX11_trail (xs ((v4 + (1 : Int32))).toNatClampNeg) m hI.1)) (fun r140 h0 => ?_)
                                            have i0 : LI r140.2 := ⟨h0.1.2.1, zC.fr hI.2 h0.1.2.2 (by decide +kernel)⟩
                                            have q0 : RV r140.2 := hR.fr h0.1.2.2 (by decide +kernel)
                                            refine s_ix (by omega) ?_
                                            refine s_bd (s_self (zX12_trail (xs ((v4 + (1 : Int32))).toNatClampNeg) r140.2 i0.1 i0.2)) (fun r143 h1 => ?_)
                                            have i1 : LI r143.2 := ⟨h1.1.2.1, zC.fr i0.2 h1.1.2.2 (by decide +kernel)⟩
                                            have q1 : RV r143.2 := q0.fr h1.1.2.2 (by decide +kernel)
                                            exact ih (v4 + (5 : Int32)) r143.2 (by omega) i1 q1
                                          · refine s_if (fun hk => ?_) (fun hk => ?_)
                                            · refine s_bd (s_self (zX11_round m hI.1)) (fun r146 h0 => ?_)
                                              have i0 : LI r146.2 := ⟨h0.1.2.1, zC.fr hI.2 h0.1.2.2 (by decide +kernel)⟩
                                              have q0 : RV r146.2 := hR.fr h0.1.2.2 (by decide +kernel)
                                              refine s_bd (s_self (zX12_round r146.2 i0.1)) (fun r148 h1 => ?_)
                                              have i1 : LI r148.2 := ⟨h1.1.2.1, zC.fr i0.2 h1.1.2.2 (by decide +kernel)⟩
                                              have q1 : RV r148.2 := q0.fr h1.1.2.2 (by decide +kernel)
                                              exact ih (v4 + (5 : Int32)) r148.2 (by omega) i1 q1
                                            · refine s_if (fun hk => ?_) (fun hk => ?_)
                                              · refine s_bd (s_self (zX11_closed m hI.1)) (fun r151 h0 => ?_)
                                                have i0 : LI r151.2 := ⟨h0.1.2.1, zC.fr hI.2 h0.1.2.2 (by decide +kernel)⟩
                                                have q0 : RV r151.2 := hR.fr h0.1.2.2 (by decide +kernel)
                                                refine s_bd (s_self (zX12_closed r151.2 i0.1)) (fun r153 h1 => ?_)
                                                have i1 : LI r153.2 := ⟨h1.1.2.1, zC.fr i0.2 h1.1.2.2 (by decide +kernel)⟩
                                                have q1 : RV r153.2 := q0.fr h1.1.2.2 (by decide +kernel)
                                                exact ih (v4 + (5 : Int32)) r153.2 (by omega) i1 q1
                                              · refine s_if (fun hk => ?_) (fun hk => ?_)
                                                · refine s_bd (s_self (zX11_open m hI.1)) (fun r156 h0 => ?_)
                                                  have i0 : LI r156.2 := ⟨h0.1.2.1, zC.fr hI.2 h0.1.2.2 (by decide +kernel)⟩
                                                  have q0 : RV r156.2 := hR.fr h0.1.2.2 (by decide +kernel)
                                                  refine s_bd (s_self (zX12_open r156.2 i0.1)) (fun r158 h1 => ?_)
                                                  have i1 : LI r158.2 := ⟨h1.1.2.1, zC.fr i0.2 h1.1.2.2 (by decide +kernel)⟩
                                                  have q1 : RV r158.2 := q0.fr h1.1.2.2 (by decide +kernel)
                                                  exact ih (v4 + (5 : Int32)) r158.2 (by omega) i1 q1
                                                · refine s_if (fun hk => ?_) (fun hk => ?_)
                                                  · refine s_ix (by omega) ?_
                                                    refine s_ix (by omega) ?_
                                                    refine s_bd (s_self (zX11_most (xs ((v4 + (1 : Int32))).toNatClampNeg) (xs ((v4 + (2 : Int32))).toNatClampNeg) m hI.1)) (fun r163 h0 => ?_)
                                                    have i0 : LI r163.2 := ⟨h0.1.2.1, zC.fr hI.2 h0.1.2.2 (by decide +kernel)⟩
                                                    have q0 : RV r163.2 := hR.fr h0.1.2.2 (by decide +kernel)
                                                    refine s_ix (by omega) ?_
                                                    refine s_ix (by omega) ?_
                                                    refine s_bd (s_self (zX12_most (xs ((v4 + (1 : Int32))).toNatClampNeg) (xs ((v4 + (2 : Int32))).toNatClampNeg) r163.2 i0.1)) (fun r167 h1 => ?_)
                                                    have i1 : LI r167.2 := ⟨h1.1.2.1, zC.fr i0.2 h1.1.2.2 (by decide +kernel)⟩
                                                    have q1 : RV r167.2 := q0.fr h1.1.2.2 (by decide +kernel)
                                                    exact ih (v4 + (5 : Int32)) r167.2 (by omega) i1 q1
                                                  · refine s_if (fun hk => ?_) (fun hk => ?_)
                                                    · refine s_ix (by omega) ?_
                                                      refine s_ix (by omega) ?_
                                                      refine s_bd (s_self (zX11_home (xs ((v4 + (1 : Int32))).toNatClampNeg) (xs ((v4 + (2 : Int32))).toNatClampNeg) m hI.1)) (fun r172 h0 => ?_)
                                                      have i0 : LI r172.2 := ⟨h0.1.2.1, zC.fr hI.2 h0.1.2.2 (by decide +kernel)⟩
                                                      have q0 : RV r172.2 := hR.fr h0.1.2.2 (by decide +kernel)
                                                      refine s_ix (by omega) ?_
                                                      refine s_ix (by omega) ?_
                                                      refine s_bd (s_self (zX12_home (xs ((v4 + (1 : Int32))).toNatClampNeg) (xs ((v4 + (2 : Int32))).toNatClampNeg) r172.2 i0.1)) (fun r176 h1 => ?_)
                                                      have i1 : LI r176.2 := ⟨h1.1.2.1, zC.fr i0.2 h1.1.2.2 (by decide +kernel)⟩
                                                      have q1 : RV r176.2 := q0.fr h1.1.2.2 (by decide +kernel)
                                                      exact ih (v4 + (5 : Int32)) r176.2 (by omega) i1 q1
                                                    · refine s_if (fun hk => ?_) (fun hk => ?_)
                                                      · refine s_ix (by omega) ?_
                                                        refine s_ix (by omega) ?_
                                                        refine s_bd (s_self (zX11_soon (xs ((v4 + (1 : Int32))).toNatClampNeg) (xs ((v4 + (2 : Int32))).toNatClampNeg) m hI.1)) (fun r181 h0 => ?_)
                                                        have i0 : LI r181.2 := ⟨h0.1.2.1, zC.fr hI.2 h0.1.2.2 (by decide +kernel)⟩
                                                        have q0 : RV r181.2 := hR.fr h0.1.2.2 (by decide +kernel)
                                                        refine s_ix (by omega) ?_
                                                        refine s_ix (by omega) ?_
                                                        refine s_bd (s_self (zX12_soon (xs ((v4 + (1 : Int32))).toNatClampNeg) (xs ((v4 + (2 : Int32))).toNatClampNeg) r181.2 i0.1)) (fun r185 h1 => ?_)
                                                        have i1 : LI r185.2 := ⟨h1.1.2.1, zC.fr i0.2 h1.1.2.2 (by decide +kernel)⟩
                                                        have q1 : RV r185.2 := q0.fr h1.1.2.2 (by decide +kernel)
                                                        exact ih (v4 + (5 : Int32)) r185.2 (by omega) i1 q1
                                                      · refine s_if (fun hk => ?_) (fun hk => ?_)
                                                        · refine s_bd (s_self (zX11_bridges m hI.1)) (fun r188 h0 => ?_)
                                                          refine s_bd (s_self (zX12_bridges m hI.1)) (fun r190 h1 => ?_)
                                                          have i1 : LI r190.2 := ⟨h1.1.2.1, zC.fr hI.2 h1.1.2.2 (by decide +kernel)⟩
                                                          have q1 : RV r190.2 := hR.fr h1.1.2.2 (by decide +kernel)
                                                          exact ih (v4 + (5 : Int32)) r190.2 (by omega) i1 q1
                                                        · refine s_if (fun hk => ?_) (fun hk => ?_)
                                                          · refine s_ix (by omega) ?_
                                                            refine s_bd (s_self (zL_reach (xs ((v4 + (1 : Int32))).toNatClampNeg) m hI.1)) (fun r193 h0 => ?_)
                                                            have i0 : LI r193.2 := ⟨h0.1.2.1, zC.fr hI.2 h0.1.2.2 (by decide +kernel)⟩
                                                            have q0 : RV r193.2 := hR.fr h0.1.2.2 (by decide +kernel)
                                                            refine s_ix (by omega) ?_
                                                            refine s_bd (s_self (zX12_reach (xs ((v4 + (1 : Int32))).toNatClampNeg) r193.2 i0.1)) (fun r197 h1 => ?_)
                                                            have i1 : LI r197.2 := ⟨h1.1.2.1, zC.fr i0.2 h1.1.2.2 (by decide +kernel)⟩
                                                            have q1 : RV r197.2 := q0.fr h1.1.2.2 (by decide +kernel)
                                                            exact ih (v4 + (5 : Int32)) r197.2 (by omega) i1 q1
                                                          · refine s_if (fun hk => ?_) (fun hk => ?_)
                                                            · refine s_ix (by omega) ?_
                                                              refine s_bd (s_self (zX11_gates (xs ((v4 + (1 : Int32))).toNatClampNeg) m hI.1)) (fun r201 h0 => ?_)
                                                              have i0 : LI r201.2 := ⟨h0.1.2.1, zC.fr hI.2 h0.1.2.2 (by decide +kernel)⟩
                                                              have q0 : RV r201.2 := hR.fr h0.1.2.2 (by decide +kernel)
                                                              refine s_ix (by omega) ?_
                                                              refine s_bd (s_self (zX12_gates (xs ((v4 + (1 : Int32))).toNatClampNeg) r201.2 i0.1 i0.2)) (fun r204 h1 => ?_)
                                                              have i1 : LI r204.2 := ⟨h1.1.2.1, zC.fr i0.2 h1.1.2.2 (by decide +kernel)⟩
                                                              have q1 : RV r204.2 := q0.fr h1.1.2.2 (by decide +kernel)
                                                              exact ih (v4 + (5 : Int32)) r204.2 (by omega) i1 q1
                                                            · refine s_if (fun hk => ?_) (fun hk => ?_)
                                                              · refine s_ix (by omega) ?_
                                                                refine s_ix (by omega) ?_
                                                                refine s_bd (s_self (zX11_heard (xs ((v4 + (1 : Int32))).toNatClampNeg) (xs ((v4 + (2 : Int32))).toNatClampNeg) m hI.1)) (fun r209 h0 => ?_)
                                                                have i0 : LI r209.2 := ⟨h0.1.2.1, zC.fr hI.2 h0.1.2.2 (by decide +kernel)⟩
                                                                refine s_ix (by omega) ?_
                                                                refine s_ix (by omega) ?_
                                                                refine s_bd (s_self (zX12_heard (xs ((v4 + (1 : Int32))).toNatClampNeg) (xs ((v4 + (2 : Int32))).toNatClampNeg) r209.2 i0.1)) (fun r213 h1 => ?_)
                                                                have i1 : LI r213.2 := ⟨h1.1.2.1, zC.fr i0.2 h1.1.2.2 (by decide +kernel)⟩
                                                                have q1 : RV r213.2 := RV.sp hR (R_heard hR.1 hI.1 i0.1 h0.2 h0.1.2.2 h1.2 h1.1.2.2).1 h0.1.2.2 h1.1.2.2 (by decide +kernel) (by decide +kernel)
                                                                exact ih (v4 + (5 : Int32)) r213.2 (by omega) i1 q1
                                                              · refine s_if (fun hk => ?_) (fun hk => ?_)
                                                                · refine s_bd (s_self (zX11_forget m hI.1)) (fun r216 h0 => ?_)
                                                                  have i0 : LI r216.2 := ⟨h0.1.2.1, zC.fr hI.2 h0.1.2.2 (by decide +kernel)⟩
                                                                  refine s_bd (s_self (zX12_forget r216.2 i0.1)) (fun r218 h1 => ?_)
                                                                  have i1 : LI r218.2 := ⟨h1.1.2.1, zC.fr i0.2 h1.1.2.2 (by decide +kernel)⟩
                                                                  have q1 : RV r218.2 := RV.sp hR (R_forget hR.1 hI.1 h0.2 h0.1.2.2 h1.2 h1.1.2.2).1 h0.1.2.2 h1.1.2.2 (by decide +kernel) (by decide +kernel)
                                                                  exact ih (v4 + (5 : Int32)) r218.2 (by omega) i1 q1
                                                                · refine s_if (fun hk => ?_) (fun hk => ?_)
                                                                  · refine s_bd (s_self (zX11_lands m hI.1)) (fun r221 h0 => ?_)
                                                                    have i0 : LI r221.2 := ⟨h0.1.2.1, zC.fr hI.2 h0.1.2.2 (by decide +kernel)⟩
                                                                    have q0 : RV r221.2 := hR.fr h0.1.2.2 (by decide +kernel)
                                                                    refine s_bd (s_self (zX12_lands r221.2 i0.1)) (fun r223 h1 => ?_)
                                                                    have i1 : LI r223.2 := ⟨h1.1.2.1, zC.fr i0.2 h1.1.2.2 (by decide +kernel)⟩
                                                                    have q1 : RV r223.2 := q0.fr h1.1.2.2 (by decide +kernel)
                                                                    exact ih (v4 + (5 : Int32)) r223.2 (by omega) i1 q1
                                                                  · refine s_if (fun hk => ?_) (fun hk => ?_)
                                                                    · refine s_bd (s_self (zX11_sure m hI.1)) (fun r226 h0 => ?_)
                                                                      have i0 : LI r226.2 := ⟨h0.1.2.1, zC.fr hI.2 h0.1.2.2 (by decide +kernel)⟩
                                                                      have q0 : RV r226.2 := hR.fr h0.1.2.2 (by decide +kernel)
                                                                      refine s_bd (s_self (zX12_sure r226.2 i0.1)) (fun r228 h1 => ?_)
                                                                      have i1 : LI r228.2 := ⟨h1.1.2.1, zC.fr i0.2 h1.1.2.2 (by decide +kernel)⟩
                                                                      have q1 : RV r228.2 := q0.fr h1.1.2.2 (by decide +kernel)
                                                                      exact ih (v4 + (5 : Int32)) r228.2 (by omega) i1 q1
                                                                    · refine s_if (fun hk => ?_) (fun hk => ?_)
                                                                      · refine s_bd (s_self (zX11_next m hI.1)) (fun r231 h0 => ?_)
                                                                        have i0 : LI r231.2 := ⟨h0.1.2.1, zC.fr hI.2 h0.1.2.2 (by decide +kernel)⟩
                                                                        have q0 : RV r231.2 := hR.fr h0.1.2.2 (by decide +kernel)
                                                                        refine s_bd (s_self (zX12_next r231.2 i0.1)) (fun r233 h1 => ?_)
                                                                        have i1 : LI r233.2 := ⟨h1.1.2.1, zC.fr i0.2 h1.1.2.2 (by decide +kernel)⟩
                                                                        have q1 : RV r233.2 := q0.fr h1.1.2.2 (by decide +kernel)
                                                                        exact ih (v4 + (5 : Int32)) r233.2 (by omega) i1 q1
                                                                      · refine s_if (fun hk => ?_) (fun hk => ?_)
                                                                        · refine s_bd (s_self (zX11_lies m hI.1)) (fun r236 h0 => ?_)
                                                                          have i0 : LI r236.2 := ⟨h0.1.2.1, zC.fr hI.2 h0.1.2.2 (by decide +kernel)⟩
                                                                          have q0 : RV r236.2 := hR.fr h0.1.2.2 (by decide +kernel)
                                                                          refine s_bd (s_self (zX12_lies r236.2 i0.1)) (fun r238 h1 => ?_)
                                                                          have i1 : LI r238.2 := ⟨h1.1.2.1, zC.fr i0.2 h1.1.2.2 (by decide +kernel)⟩
                                                                          have q1 : RV r238.2 := q0.fr h1.1.2.2 (by decide +kernel)
                                                                          exact ih (v4 + (5 : Int32)) r238.2 (by omega) i1 q1
                                                                        · refine s_if (fun hk => ?_) (fun hk => ?_)
                                                                          · refine s_bd (s_self (zX11_quarrel m hI.1)) (fun r241 h0 => ?_)
                                                                            have i0 : LI r241.2 := ⟨h0.1.2.1, zC.fr hI.2 h0.1.2.2 (by decide +kernel)⟩
                                                                            have q0 : RV r241.2 := hR.fr h0.1.2.2 (by decide +kernel)
                                                                            refine s_bd (s_self (zX12_quarrel r241.2 i0.1)) (fun r243 h1 => ?_)
                                                                            have i1 : LI r243.2 := ⟨h1.1.2.1, zC.fr i0.2 h1.1.2.2 (by decide +kernel)⟩
                                                                            have q1 : RV r243.2 := q0.fr h1.1.2.2 (by decide +kernel)
                                                                            exact ih (v4 + (5 : Int32)) r243.2 (by omega) i1 q1
                                                                          · refine s_if (fun hk => ?_) (fun hk => ?_)
                                                                            · refine s_ix (by omega) ?_
                                                                              refine s_bd (s_self (zX11_keep (xs ((v4 + (1 : Int32))).toNatClampNeg) m hI.1)) (fun r247 h0 => ?_)
                                                                              have i0 : LI r247.2 := ⟨h0.1.2.1, zC.fr hI.2 h0.1.2.2 (by decide +kernel)⟩
                                                                              have q0 : RV r247.2 := hR.fr h0.1.2.2 (by decide +kernel)
                                                                              refine s_ix (by omega) ?_
                                                                              refine s_bd (s_self (zX12_keep (xs ((v4 + (1 : Int32))).toNatClampNeg) r247.2 i0.1)) (fun r250 h1 => ?_)
                                                                              have i1 : LI r250.2 := ⟨h1.1.2.1, zC.fr i0.2 h1.1.2.2 (by decide +kernel)⟩
                                                                              have q1 : RV r250.2 := q0.fr h1.1.2.2 (by decide +kernel)
                                                                              exact ih (v4 + (5 : Int32)) r250.2 (by omega) i1 q1
                                                                            · refine s_if (fun hk => ?_) (fun hk => ?_)
                                                                              · refine s_ix (by omega) ?_
                                                                                refine s_bd (s_self (zX11_again (xs ((v4 + (1 : Int32))).toNatClampNeg) m hI.1)) (fun r254 h0 => ?_)
                                                                                have i0 : LI r254.2 := ⟨h0.1.2.1, zC.fr hI.2 h0.1.2.2 (by decide +kernel)⟩
                                                                                have q0 : RV r254.2 := hR.fr h0.1.2.2 (by decide +kernel)
                                                                                refine s_ix (by omega) ?_
                                                                                refine s_bd (s_self (zX12_again (xs ((v4 + (1 : Int32))).toNatClampNeg) r254.2 i0.1)) (fun r257 h1 => ?_)
                                                                                have i1 : LI r257.2 := ⟨h1.1.2.1, zC.fr i0.2 h1.1.2.2 (by decide +kernel)⟩
                                                                                have q1 : RV r257.2 := q0.fr h1.1.2.2 (by decide +kernel)
                                                                                exact ih (v4 + (5 : Int32)) r257.2 (by omega) i1 q1
                                                                              · refine s_if (fun hk => ?_) (fun hk => ?_)
                                                                                · refine s_ix (by omega) ?_
                                                                                  refine s_bd (s_self (zX11_count (xs ((v4 + (1 : Int32))).toNatClampNeg) m hI.1)) (fun r261 h0 => ?_)
                                                                                  refine s_ix (by omega) ?_
                                                                                  refine s_bd (s_self (zX12_count (xs ((v4 + (1 : Int32))).toNatClampNeg) m hI.1)) (fun r264 h1 => ?_)
                                                                                  have i1 : LI r264.2 := ⟨h1.1.2.1, zC.fr hI.2 h1.1.2.2 (by decide +kernel)⟩
                                                                                  have q1 : RV r264.2 := hR.fr h1.1.2.2 (by decide +kernel)
                                                                                  exact ih (v4 + (5 : Int32)) r264.2 (by omega) i1 q1
                                                                                · refine s_if (fun hk => ?_) (fun hk => ?_)
                                                                                  · refine s_ix (by omega) ?_
                                                                                    refine s_bd (s_self (zL_row (xs ((v4 + (1 : Int32))).toNatClampNeg) m hI.1)) (fun r267 h0 => ?_)
                                                                                    have i0 : LI r267.2 := ⟨h0.1.2.1, zC.fr hI.2 h0.1.2.2 (by decide +kernel)⟩
                                                                                    have q0 : RV r267.2 := hR.fr h0.1.2.2 (by decide +kernel)
                                                                                    refine s_ix (by omega) ?_
                                                                                    refine s_bd (s_self (zX12_row (xs ((v4 + (1 : Int32))).toNatClampNeg) r267.2 i0.1)) (fun r271 h1 => ?_)
                                                                                    have i1 : LI r271.2 := ⟨h1.1.2.1, zC.fr i0.2 h1.1.2.2 (by decide +kernel)⟩
                                                                                    have q1 : RV r271.2 := q0.fr h1.1.2.2 (by decide +kernel)
                                                                                    exact ih (v4 + (5 : Int32)) r271.2 (by omega) i1 q1
                                                                                  · exact ih (v4 + (5 : Int32)) m (by omega) hI hR
