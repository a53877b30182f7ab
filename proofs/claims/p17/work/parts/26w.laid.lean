/-! THE TOURS THAT ARE LAID DOWN, in both -/
/-- the reference's tours are as they were -/
def UNv (s0 s : sm_S) : Prop := ∀ j : Nat, s.1 89 j = s0.1 89 j ∧ s.1 90 j = s0.1 90 j ∧ s.1 91 j = s0.1 91 j
/-- the reference has laid down the text's tour as number i -/
def STv (m s0 : sm_S) (i : Nat) (len : Int) (s : sm_S) : Prop := s.1 89 i = crT m 0 ∧ (s.1 90 i).toInt = len - 1 ∧ (∀ k : Nat, (k : Int) < len - 1 → s.1 91 (30 * i + k) = hdT m k) ∧ (∀ j : Nat, j ≠ i → s.1 89 j = s0.1 89 j ∧ s.1 90 j = s0.1 90 j) ∧ ∀ j : Nat, (j < 30 * i ∨ 30 * i + 30 ≤ j) → s.1 91 j = s0.1 91 j
theorem UNv.fr {W : List (Nat × Nat)} {s s' : sm_S} (F : Fr W s s') (h : and (noA W 89) (and (noA W 90) (noA W 91)) = true) : UNv s s' := by
  obtain ⟨n1, h⟩ := Bool.and_eq_true_iff.mp h
  obtain ⟨n2, n3⟩ := Bool.and_eq_true_iff.mp h
  exact fun j => ⟨noA.e F n1 j, noA.e F n2 j, noA.e F n3 j⟩
theorem v_ent {x : Int32} {s s' : sm_S} (h : fX12_enters x s = some s') {a : Nat} (h2 : a ≠ 72) (h3 : a ≠ 73) (j : Nat) : s'.1 a j = s.1 a j := by
  unfold fX12_enters at h
  split at h
  · obtain rfl := Option.some.inj h
    rw [r_cell h2, r_cell h3]
  · cases h
theorem v_t218 : ∀ (n : Nat) (v1 v4 v5 v6 v7 v10 : Int32) (s : sm_S) (b : Int32 × sm_S), 0 ≤ v1.toInt → v1.toInt ≤ 1 → 0 ≤ v10.toInt → v5.toInt ≤ 30 → fX12_tour_218 n v1 v4 v5 v6 v7 v10 s = some b → (∀ j : Nat, b.2.1 89 j = s.1 89 j ∧ b.2.1 90 j = s.1 90 j) ∧ (∀ k : Nat, v10.toInt ≤ (k : Int) → (k : Int) < v5.toInt → b.2.1 91 (30 * v1.toNatClampNeg + k) = s.1 92 k) ∧ ∀ j : Nat, ((j : Int) < 30 * v1.toInt + v10.toInt ∨ 30 * v1.toInt + v5.toInt ≤ (j : Int)) → b.2.1 91 j = s.1 91 j := by
  intro n
  induction n with
  | zero => intro v1 v4 v5 v6 v7 v10 s b h0 h1 h2 h3 h; cases h
  | succ n ih =>
    intro v1 v4 v5 v6 v7 v10 s b h0 h1 h2 h3 h
    have et1 := a_tn h0
    have et := a_tn h2
    unfold fX12_tour_218 at h
    by_cases g : v5 ≤ v10
    · have g' := leI.mp g
      rw [if_pos g] at h
      obtain ⟨m12, e1, h⟩ := bd_some h
      obtain ⟨m14, e2, h⟩ := bd_some h
      obtain rfl := Option.some.inj h
      have key : ∀ a : Nat, a ≠ 72 → a ≠ 73 → ∀ j : Nat, m14.1 a j = s.1 a j := fun a ha hb j => by
        rw [v_ent e2 ha hb, v_ent e1 ha hb, r_cell ha]
      exact ⟨fun j => ⟨key 89 (by decide) (by decide) j, key 90 (by decide) (by decide) j⟩, fun k hk hk2 => by omega, fun j _ => key 91 (by decide) (by decide) j⟩
    · have g' := Int.not_le.mp (fun z => g (leI.mpr z))
      have e30 : ((30 : Int32) * v1).toInt = 30 * v1.toInt := a_mul L30 rfl (by omega) (by omega)
      have ei : (((30 : Int32) * v1) + v10).toInt = 30 * v1.toInt + v10.toInt := by rw [a_add (by omega) (by omega), e30]
      have eit := a_tn (x := ((30 : Int32) * v1) + v10) (by omega)
      have e10 : (v10 + (1 : Int32)).toInt = v10.toInt + 1 := a_addl L1 (by omega) (by omega)
      rw [if_neg g, if_pos (ix_in (show 0 ≤ v10.toInt ∧ v10.toInt < ((30 : Nat) : Int) by omega)), if_pos (ix_in (show 0 ≤ (((30 : Int32) * v1) + v10).toInt ∧ (((30 : Int32) * v1) + v10).toInt < ((60 : Nat) : Int) by omega))] at h
      obtain ⟨a1, a2, a3⟩ := ih v1 v4 v5 v6 v7 (v10 + (1 : Int32)) _ b h0 h1 (by omega) h3 h
      refine ⟨fun j => ?_, fun k hk hk2 => ?_, fun j hj => ?_⟩
      · obtain ⟨z1, z2⟩ := a1 j
        exact ⟨by rw [z1, r_cell (by decide)], by rw [z2, r_cell (by decide)]⟩
      · by_cases q : (k : Int) = v10.toInt
        · have e : 30 * v1.toNatClampNeg + k = (((30 : Int32) * v1) + v10).toNatClampNeg := by omega
          rw [a3 (30 * v1.toNatClampNeg + k) (Or.inl (by omega)), e, r_hit, show k = v10.toNatClampNeg by omega]
        · rw [a2 k (by omega) hk2, r_cell (by decide)]
      · rw [a3 j (by omega), r_place (by omega)]
theorem tour_endS {m s0 : sm_S} {len : Int} {v1 v3 v4 v5 v6 v7 : Int32} {s : sm_S} {f : Int32} {b : Int32 × sm_S} (h10 : 0 ≤ v1.toInt) (h11 : v1.toInt ≤ 1) (hU : UNv s0 s) (h : (if 0 ≤ f then (if sm_ix v1 2 then (if sm_ix v1 2 then (fX12_tour_218 sm_fu v1 v4 v5 v6 v7 (0 : Int32) (sm_w1 (sm_w1 s 89 (v1).toNatClampNeg v3) 90 (v1).toNatClampNeg v5)) else none) else none) else (some (f, s))) = some b) : (0 ≤ f.toInt → v3 = crT m 0 → v5.toInt = len - 1 → 0 ≤ v5.toInt → v5.toInt ≤ 30 → (∀ k : Nat, (k : Int) < v5.toInt → s.1 92 k = hdT m k) → STv m s0 v1.toNatClampNeg len b.2) ∧ (f.toInt < 0 → UNv s0 b.2) := by
  have l0 := L0
  have et1 := a_tn h10
  by_cases q : 0 ≤ f
  · have q' := leI.mp q
    have hx : 0 ≤ v1.toInt ∧ v1.toInt < ((2 : Nat) : Int) := by omega
    rw [if_pos q, if_pos (ix_in hx), if_pos (ix_in hx)] at h
    refine ⟨fun _ h3 h5 h50 h53 h92 => ?_, fun z => by omega⟩
    obtain ⟨a1, a2, a3⟩ := v_t218 _ _ _ _ _ _ _ _ _ h10 h11 (by omega) h53 h
    refine ⟨?_, ?_, fun k hk => ?_, fun j hj => ⟨?_, ?_⟩, fun j hj => ?_⟩
    · rw [(a1 _).1, r_cell (by decide), r_hit]; exact h3
    · rw [(a1 _).2, r_hit]; exact h5
    · rw [a2 k (by omega) (by omega), r_cell (by decide), r_cell (by decide)]; exact h92 k (by omega)
    · rw [(a1 j).1, r_cell (by decide), r_place hj]; exact (hU j).1
    · rw [(a1 j).2, r_place hj, r_cell (by decide)]; exact (hU j).2.1
    · rw [a3 j (by omega), r_cell (by decide), r_cell (by decide)]; exact (hU j).2.2
  · rw [if_neg q] at h
    have := Int.not_le.mp (fun z => q (leI.mpr z))
    obtain rfl := Option.some.inj h
    exact ⟨fun z => by omega, fun _ => hU⟩
theorem v_t62 (m : sm_S) (hI : zI m) (s0 : sm_S) (len : Int32) (hl : 0 ≤ len.toInt ∧ len.toInt ≤ 80) : ∀ (n : Nat) (v1 v3 v4 v5 v6 v7 v8 : Int32) (s : sm_S) (b : Int32 × sm_S), (0 ≤ v1.toInt ∧ v1.toInt ≤ 1) → UNv s0 s → TG m s len.toInt → 0 ≤ (s.1 72 22).toInt → (s.1 72 22).toInt ≤ (s.1 72 23).toInt → (v8.toInt = 0 ∨ v8.toInt = 1) → (v8.toInt = 0 → BDt m len.toInt (s.1 72 22).toNatClampNeg ∧ (s.1 72 22).toInt < 30) → (v8.toInt = 1 → 1 ≤ (s.1 72 22).toInt ∧ 0 ≤ v5.toInt ∧ v5.toInt + 1 = (s.1 72 22).toInt ∧ v4 = crT m v5.toNatClampNeg ∧ v6 = mnT m v5.toNatClampNeg ∧ cOK m ∧ (∀ k : Nat, (k : Int) < v5.toInt → okT m k) ∧ v3 = crT m 0 ∧ ∀ k : Nat, (k : Int) < v5.toInt → s.1 92 k = hdT m k) → fX12_tour_62 n v1 len v3 v4 v5 v6 v7 v8 s = some b → (GDt m len.toInt ∧ STv m s0 v1.toNatClampNeg len.toInt b.2) ∨ ((∃ p : Nat, BDt m len.toInt p) ∧ UNv s0 b.2) := by
  have l0 := L0
  have l1 := L1
  have l30 := L30
  have c31 : 0 ≤ (m.1 3 1).toInt ∧ (m.1 3 1).toInt ≤ 14 := hI.1 3 1
  intro n
  induction n with
  | zero => intro v1 v3 v4 v5 v6 v7 v8 s b h9 hU hG h0 h1 h8 ha hb h; cases h
  | succ n ih =>
    intro v1 v3 v4 v5 v6 v7 v8 s b h9 hU hG h0 h1 h8 ha hb h
    obtain ⟨hL, hJ, ht, hto, hto3, htoE⟩ := hG
    have e31 := hL.hedge
    have et := a_tn h0
    unfold fX12_tour_62 at h
    by_cases g8 : v8 = 0
    · have g8' : v8.toInt = 0 := by rw [g8]; exact l0
      obtain ⟨hB, hlt⟩ := ha g8'
      rw [if_pos g8] at h
      obtain ⟨f, ef, -, -, hf⟩ := zX12_faultOf_v len (30 : Int32) v8 s (by omega) hJ
      rw [ef, Option.bind_some] at h
      have hte := tour_endS (m := m) (s0 := s0) (len := len.toInt) h9.1 h9.2 hU h
      have ef2 : f.toInt = -1 - (s.1 72 22).toInt := by rcases hf with q | ⟨q, q2 | q2⟩ <;> omega
      exact Or.inr ⟨⟨_, hB⟩, hte.2 (by omega)⟩
    · have g8' : v8.toInt = 1 := by
        rcases h8 with z | z
        · exact absurd (eqI.mpr (by rw [z]; exact l0.symm)) g8
        · exact z
      obtain ⟨b1, b2, b3, b4, b5, b6, b7, b8, b9⟩ := hb g8'
      have et5 := a_tn b2
      rw [if_neg g8] at h
      by_cases g : (s.1 72 23) ≤ (s.1 72 22)
      · have g' := leI.mp g
        rw [if_pos g] at h
        obtain ⟨f, ef, -, -, hf⟩ := zX12_faultOf_v len (30 : Int32) v8 s (by omega) hJ
        rw [ef, Option.bind_some] at h
        have hte := tour_endS (m := m) (s0 := s0) (len := len.toInt) h9.1 h9.2 hU h
        by_cases q30 : len.toInt ≤ 30
        · have ef2 : f.toInt = 0 := by rcases hf with q | ⟨q, q2 | q2⟩ <;> omega
          have e5 : v5.toNatClampNeg = len.toInt.toNat - 1 := by omega
          exact Or.inl ⟨⟨by omega, q30, b6, fun k hk => b7 k (by omega)⟩, hte.1 (by omega) b8 (by omega) b2 (by omega) b9⟩
        · have ef2 : f.toInt = -1 - 30 := by rcases hf with q | ⟨q, q2 | q2⟩ <;> omega
          exact Or.inr ⟨⟨30, Or.inr ⟨by decide, by omega, by decide, b6, fun k hk => b7 k (by omega), Or.inl rfl⟩⟩, hte.2 (by omega)⟩
      · have g' := Int.not_le.mp (fun z => g (leI.mpr z))
        have hx80 : 0 ≤ (s.1 72 22).toInt ∧ (s.1 72 22).toInt < ((80 : Nat) : Int) := by omega
        rw [if_neg g, if_pos (ix_in hx80)] at h
        have hch : (s.1 84 (s.1 72 22).toNatClampNeg) - (65 : Int32) = hdT m v5.toNatClampNeg := by
          unfold hdT
          rw [← ht _ (by omega), show v5.toNatClampNeg + 1 = (s.1 72 22).toNatClampNeg by omega]
        rw [hch] at h
        obtain ⟨r23, e23, -, -, h23⟩ := zX12_isHedge (hdT m v5.toNatClampNeg) s hJ
        rw [e23, Option.bind_some] at h
        have bad : ¬ okT m v5.toNatClampNeg → BDt m len.toInt (s.1 72 22).toNatClampNeg ∧ (s.1 72 22).toInt < 30 := by
          intro z
          refine ⟨Or.inr ⟨by omega, by omega, by omega, b6, fun k hk => b7 k (by omega), Or.inr ?_⟩, by omega⟩
          rw [show (s.1 72 22).toNatClampNeg - 1 = v5.toNatClampNeg by omega]; exact z
        have goBad : ¬ okT m v5.toNatClampNeg → fX12_tour_62 n v1 len v3 v4 v5 v6 v7 (0 : Int32) s = some b → (GDt m len.toInt ∧ STv m s0 v1.toNatClampNeg len.toInt b.2) ∨ ((∃ p : Nat, BDt m len.toInt p) ∧ UNv s0 b.2) := by
          intro hnb h2
          exact ih v1 v3 v4 v5 v6 v7 (0 : Int32) s b h9 hU ⟨hL, hJ, ht, hto, hto3, htoE⟩ h0 h1 (Or.inl l0) (fun _ => bad hnb) (fun z => by omega) h2
        by_cases q23 : r23 = 0
        · have q23' : r23.toInt = 0 := by rw [q23]; exact l0
          rw [if_pos q23] at h
          exact goBad (fun z => by obtain ⟨z1, z2, -⟩ := z; omega) h
        · have q23' : r23.toInt ≠ 0 := fun z => q23 (eqI.mpr (by rw [z]; exact l0.symm))
          rw [if_neg q23, e_isEnd12 hL hI (by omega) (by omega), Option.bind_some] at h
          by_cases qe : (m.1 6 (hdT m v5.toNatClampNeg).toNatClampNeg = v4 ∨ m.1 7 (hdT m v5.toNatClampNeg).toNatClampNeg = v4)
          · have F92 : Fr [(92, 999)] s (sm_w1 s 92 (v5).toNatClampNeg (hdT m v5.toNatClampNeg)) := Fr.w Fr.refl rfl
            have hL2 : XL m (sm_w1 s 92 (v5).toNatClampNeg (hdT m v5.toNatClampNeg)) := hL.fr (W := []) Fr.refl F92 rfl
            have okk : okT m v5.toNatClampNeg := ⟨by omega, by omega, by rw [← b4]; exact qe⟩
            rw [if_pos qe, if_neg (show ¬ ((1 : Int32) = 0) by decide), if_pos (ix_in (show 0 ≤ v5.toInt ∧ v5.toInt < ((30 : Nat) : Int) by omega)), e_mins12 hL2 hI (by omega) (by omega), Option.bind_some, e_other12 hL2 hI (by omega) (by omega), Option.bind_some] at h
            have e22 : ((s.1 72 22) + (1 : Int32)).toInt = (s.1 72 22).toInt + 1 := a_addl L1 (by omega) (by omega)
            have e5 : (v5 + (1 : Int32)).toInt = v5.toInt + 1 := a_addl L1 (by omega) (by omega)
            have hs5 : (v5 + (1 : Int32)).toNatClampNeg = v5.toNatClampNeg + 1 := by
              have := a_tn (x := v5 + (1 : Int32)) (by omega)
              omega
            have hzh : zI (sm_w1 s 92 (v5).toNatClampNeg (hdT m v5.toNatClampNeg)) := zI.w92 hJ (show 0 ≤ (hdT m v5.toNatClampNeg).toInt ∧ (hdT m v5.toNatClampNeg).toInt ≤ 13 by omega) (Or.inl (by omega))
            have hJ2 : zI (sm_w1 (sm_w1 s 92 (v5).toNatClampNeg (hdT m v5.toNatClampNeg)) 72 22 ((s.1 72 22) + (1 : Int32))) := zI.w hzh rfl (show 0 ≤ ((s.1 72 22) + (1 : Int32)).toInt ∧ ((s.1 72 22) + (1 : Int32)).toInt ≤ 80 by omega)
            have F2 : Fr [(92, 999), (72, 22)] s (sm_w1 (sm_w1 s 92 (v5).toNatClampNeg (hdT m v5.toNatClampNeg)) 72 22 ((s.1 72 22) + (1 : Int32))) := Fr.w (Fr.w Fr.refl rfl) rfl
            have hL3 : XL m (sm_w1 (sm_w1 s 92 (v5).toNatClampNeg (hdT m v5.toNatClampNeg)) 72 22 ((s.1 72 22) + (1 : Int32))) := hL.fr (W := []) Fr.refl F2 rfl
            have q22 : (sm_w1 (sm_w1 s 92 (v5).toNatClampNeg (hdT m v5.toNatClampNeg)) 72 22 ((s.1 72 22) + (1 : Int32))).1 72 22 = (s.1 72 22) + (1 : Int32) := r_hit
            have q23b : (sm_w1 (sm_w1 s 92 (v5).toNatClampNeg (hdT m v5.toNatClampNeg)) 72 22 ((s.1 72 22) + (1 : Int32))).1 72 23 = s.1 72 23 := F2 72 23 rfl
            refine ih v1 v3 _ (v5 + (1 : Int32)) _ _ (1 : Int32) _ b h9 (fun j => by rw [F2 89 j rfl, F2 90 j rfl, F2 91 j rfl]; exact hU j) ⟨hL3, hJ2, fun j hj => ?_, by rw [q23b]; exact hto, by rw [q23b]; exact hto3, by rw [q23b]; exact htoE⟩ (by rw [q22]; omega) (by rw [q22, q23b]; omega) (Or.inr l1) (fun z => by omega) (fun _ => ⟨by rw [q22]; omega, by omega, by rw [q22]; omega, by rw [hs5, b4]; rfl, by rw [hs5, b5, b4]; rfl, b6, fun k hk => ?_, b8, fun k hk => ?_⟩) h
            · rw [F2 84 j rfl]; exact ht j hj
            · by_cases qk : k = v5.toNatClampNeg
              · subst qk; exact okk
              · exact b7 k (by omega)
            · rw [r_cell (by decide)]
              by_cases qk : k = v5.toNatClampNeg
              · subst qk; exact r_hit
              · rw [r_place qk]; exact b9 k (by omega)
          · rw [if_neg qe, if_pos rfl] at h
            exact goBad (fun z => qe (by rw [b4]; exact z.2.2)) h
theorem s_t12 {x1 : Int32} {m s : sm_S} (hT : XT m s) (hL : XL m s) (hI : zI m) (hJ : zI s) {b : Int32 × sm_S} (h : fX12_tour x1 s = some b) : ((x1.toInt < 0 ∨ 1 < x1.toInt) ∧ UNv s b.2) ∨ ((0 ≤ x1.toInt ∧ x1.toInt ≤ 1) ∧ ((GDt m (m.1 1 1).toInt ∧ STv m s x1.toNatClampNeg (m.1 1 1).toInt b.2) ∨ ((∃ p : Nat, BDt m (m.1 1 1).toInt p) ∧ UNv s b.2))) := by
  have l0 := L0
  have l1 := L1
  have ln1 := Ln1
  have l30 := L30
  have ll0 := LL0
  have ll1 := LL1
  have c11 : 0 ≤ (m.1 1 1).toInt ∧ (m.1 1 1).toInt ≤ 80 := hI.1 1 1
  have c30 : 0 ≤ (m.1 3 0).toInt ∧ (m.1 3 0).toInt ≤ 10 := hI.1 3 0
  have cj3 : 0 ≤ (s.1 72 3).toInt ∧ (s.1 72 3).toInt ≤ 10 := hJ.1 72 3
  have e11 : (m.1 1 1).toInt = (s.1 72 21).toInt := congrArg Int32.toInt hT.1
  have e30 := hL.corner
  have ex1 : x1.toInt64.toInt = x1.toInt := Int32.toInt_toInt64 _
  have hfu := fuE
  have z0 : (0 : Int32).toNatClampNeg = 0 := by decide
  unfold fX12_tour fX12_begins at h
  rw [Option.bind_some] at h
  generalize hS1 : (sm_w1 (sm_w1 (sm_w1 (sm_w1 s 72 0 (0 : Int32)) 72 21 (0 : Int32)) 72 22 (0 : Int32)) 72 23 (if (30 : Int32) < ((sm_w1 s 72 0 (0 : Int32)).1 72 21) then (30 : Int32) else ((sm_w1 s 72 0 (0 : Int32)).1 72 21))) = S1 at h
  have elen : (sm_w1 s 72 0 (0 : Int32)).1 72 21 = m.1 1 1 := hT.1.symm
  rw [elen] at h hS1
  dsimp only at h
  have ci : ((30 : Int32).toInt < (m.1 1 1).toInt ∧ (if (30 : Int32) < (m.1 1 1) then (30 : Int32) else (m.1 1 1)).toInt = (30 : Int32).toInt) ∨ ((m.1 1 1).toInt ≤ (30 : Int32).toInt ∧ (if (30 : Int32) < (m.1 1 1) then (30 : Int32) else (m.1 1 1)).toInt = (m.1 1 1).toInt) := a_ilt
  have j0 := zI.w hJ (a := 72) (k := 0) (v := (0 : Int32)) rfl (show 0 ≤ (0 : Int32).toInt ∧ (0 : Int32).toInt ≤ 1 by omega)
  have j1 := zI.w j0 (a := 72) (k := 21) (v := (0 : Int32)) rfl (show 0 ≤ (0 : Int32).toInt ∧ (0 : Int32).toInt ≤ 80 by omega)
  have j2 := zI.w j1 (a := 72) (k := 22) (v := (0 : Int32)) rfl (show 0 ≤ (0 : Int32).toInt ∧ (0 : Int32).toInt ≤ 80 by omega)
  have j3 := zI.w j2 (a := 72) (k := 23) (v := (if (30 : Int32) < (m.1 1 1) then (30 : Int32) else (m.1 1 1))) rfl (show 0 ≤ (if (30 : Int32) < (m.1 1 1) then (30 : Int32) else (m.1 1 1)).toInt ∧ (if (30 : Int32) < (m.1 1 1) then (30 : Int32) else (m.1 1 1)).toInt ≤ 76 by omega)
  have F1 : Fr [(72, 0), (72, 21), (72, 22), (72, 23)] s S1 := by rw [← hS1]; exact Fr.w (Fr.w (Fr.w (Fr.w Fr.refl rfl) rfl) rfl) rfl
  rw [hS1] at j3
  have s22 : S1.1 72 22 = (0 : Int32) := by rw [← hS1]; rfl
  have s23 : S1.1 72 23 = (if (30 : Int32) < (m.1 1 1) then (30 : Int32) else (m.1 1 1)) := by rw [← hS1]; rfl
  obtain ⟨r4, e4, -, -, h4⟩ := zX12_in x1.toInt64 (0 : Int64) (1 : Int64) S1 (by omega) j3
  rw [e4, Option.bind_some] at h
  by_cases q4 : r4 = 0
  · have q4' : r4.toInt = 0 := by rw [q4]; exact l0
    rw [if_pos q4] at h
    obtain rfl := Option.some.inj h
    exact Or.inl ⟨by omega, UNv.fr F1 rfl⟩
  · have q4' : r4.toInt ≠ 0 := fun z => q4 (eqI.mpr (by rw [z]; exact l0.symm))
    rw [if_neg q4] at h
    refine Or.inr ⟨by omega, ?_⟩
    have s3 : S1.1 72 3 = s.1 72 3 := F1 72 3 rfl
    rw [s3] at h
    have j4 := zI.w j3 (a := 72) (k := 24) (v := s.1 72 3) rfl (show 0 ≤ (s.1 72 3).toInt ∧ (s.1 72 3).toInt ≤ 10 by omega)
    generalize hS2 : sm_w1 S1 72 24 (s.1 72 3) = S2 at h j4
    have F2 : Fr [(72, 0), (72, 21), (72, 22), (72, 23), (72, 24)] s S2 := by rw [← hS2]; exact Fr.w (Fr.sub F1 rfl) rfl
    have t22 : S2.1 72 22 = (0 : Int32) := by rw [← hS2]; exact s22
    have t23 : S2.1 72 23 = (if (30 : Int32) < (m.1 1 1) then (30 : Int32) else (m.1 1 1)) := by rw [← hS2]; exact s23
    have t24 : S2.1 72 24 = s.1 72 3 := by rw [← hS2]; rfl
    obtain ⟨r6, e6, ⟨c1, c2, h6⟩, j6, F6⟩ := zX12_cornerBut_v (-1 : Int32) S2 (by omega) j4
    rw [e6, Option.bind_some] at h
    have t22' : (S2.1 72 22).toInt = 0 := by rw [t22]; exact l0
    have t22n : (S2.1 72 22).toNatClampNeg = 0 := by rw [t22]; exact z0
    have t23' : (S2.1 72 23).toInt = (if (30 : Int32) < (m.1 1 1) then (30 : Int32) else (m.1 1 1)).toInt := by rw [t23]
    have t24' : (S2.1 72 24).toInt = (m.1 3 0).toInt := by rw [t24]; exact e30.symm
    rw [t22n] at h6
    have u23 : r6.2.1 72 23 = S2.1 72 23 := F6 72 23 rfl
    have u23' : (r6.2.1 72 23).toInt = (S2.1 72 23).toInt := by rw [u23]
    have hL6 : XL m r6.2 := hL.fr (W := []) Fr.refl (Fr.trans F2 F6 rfl) rfl
    have hU6 : UNv s r6.2 := UNv.fr (Fr.trans F2 F6 rfl) rfl
    have hG6 : TG m r6.2 (m.1 1 1).toInt := by
      refine ⟨hL6, j6, fun j hj => ?_, by omega, by omega, by omega⟩
      rw [F6 84 j rfl, F2 84 j rfl]; exact hT.2 j hj
    have ecr : crT m 0 = (m.1 2 0) - (97 : Int32) := rfl
    have c20 : 0 ≤ (m.1 2 0).toInt ∧ (m.1 2 0).toInt ≤ 65535 := hI.1 2 0
    have ecr' : (crT m 0).toInt = (m.1 2 0).toInt - 97 := by rw [ecr]; exact a_subl L97 (by omega) (by omega)
    have h84 : 0 < (m.1 1 1).toInt → (S2.1 84 0).toInt = (m.1 2 0).toInt := by
      intro z
      rw [F2 84 0 rfl, ← hT.2 0 (by omega)]
    by_cases q6 : r6.1 < 0
    · have q6' := ltI.mp q6
      rw [if_pos q6] at h
      have hB : BDt m (m.1 1 1).toInt 0 := by
        refine Or.inl ⟨rfl, ?_⟩
        by_cases z : (m.1 1 1).toInt = 0
        · exact Or.inl z
        · refine Or.inr (fun hc => ?_)
          have h8 := h84 (by omega)
          unfold cOK at hc
          rcases h6 with h6 | h6 <;> omega
      have u22 : (r6.2.1 72 22).toInt = 0 := by rcases h6 with h6 | h6 <;> omega
      have u22n : (r6.2.1 72 22).toNatClampNeg = 0 := by
        have := a_tn (x := r6.2.1 72 22) (by omega)
        omega
      exact v_t62 m hI s (m.1 1 1) c11 sm_fu x1 r6.1 r6.1 (0 : Int32) (0 : Int32) (0 : Int32) (0 : Int32) r6.2 b ⟨by omega, by omega⟩ hU6 hG6 (by omega) (by omega) (Or.inl l0) (fun _ => ⟨by rw [u22n]; exact hB, by omega⟩) (fun z => by omega) h
    · have q6' := Int.not_lt.mp (fun z => q6 (ltI.mpr z))
      rw [if_neg q6] at h
      have h8 : 0 < (m.1 1 1).toInt := by rcases h6 with h6 | h6 <;> omega
      have h88 := h84 h8
      have e6c : r6.1 = crT m 0 := eqI.mpr (by rcases h6 with h6 | h6 <;> omega)
      have e6i : r6.1.toInt = (crT m 0).toInt := by rw [e6c]
      exact v_t62 m hI s (m.1 1 1) c11 sm_fu x1 r6.1 r6.1 (0 : Int32) (0 : Int32) (0 : Int32) (1 : Int32) r6.2 b ⟨by omega, by omega⟩ hU6 hG6 (by rcases h6 with h6 | h6 <;> omega) (by rcases h6 with h6 | h6 <;> omega) (Or.inr l1) (fun z => by omega) (fun _ => ⟨by rcases h6 with h6 | h6 <;> omega, by omega, by rcases h6 with h6 | h6 <;> omega, by rw [z0]; exact e6c, by rw [z0]; rfl, by unfold cOK; rcases h6 with h6 | h6 <;> omega, (fun k hk => by omega), e6c, fun k hk => by omega⟩) h
theorem v_lay58 : ∀ (n : Nat) (v3 : Int32) (m r : sm_S), fX9_lay_24 n v3 m = some r → ∀ j : Nat, r.1 58 j = m.1 58 j := by
  intro n
  induction n with
  | zero => intro v3 m r h; cases h
  | succ n ih =>
    intro v3 m r h j
    unfold fX9_lay_24 at h
    split at h
    · obtain rfl := Option.some.inj h; rfl
    · split at h
      · split at h
        · rw [ih _ _ _ h j, r_cell (by decide)]
        · cases h
      · cases h
theorem v_cls {m : sm_S} {len : Int32} (hG : GDt m len.toInt) {m4 : sm_S} (h4 : fX9_lay len m = some m4) : m4.1 58 0 = (1 : Int32) ∧ m4.1 58 1 = crT m 0 ∧ (m4.1 58 2).toInt = len.toInt - 1 ∧ ∀ k : Nat, (k : Int) < len.toInt - 1 → m4.1 59 k = hdT m k := by
  obtain ⟨g1, g2, g3, g4⟩ := hG
  have l0 := L0
  have e1 : (len - (1 : Int32)).toInt = len.toInt - 1 := a_subl L1 (by omega) (by omega)
  unfold fX9_lay at h4
  have a0 := v_lay58 _ _ _ _ h4
  obtain ⟨a1, a2, a3⟩ := v_lay m sm_fu (0 : Int32) _ m4 (Fr.w (Fr.w (Fr.w Fr.refl rfl) rfl) rfl) (by omega) (fun k hk => by omega) h4
  have b2 : m4.1 58 2 = len - (1 : Int32) := a2
  refine ⟨(a0 0).trans rfl, a1, by rw [b2]; exact e1, fun k hk => a3 k ?_⟩
  show (k : Int) < (len - (1 : Int32)).toInt
  omega
theorem v_lay58_i1 : ∀ (n : Nat) (v3 : Int32) (m r : sm_S), fX9_lay_i1_24 n v3 m = some r → ∀ j : Nat, r.1 62 j = m.1 62 j := by
  intro n
  induction n with
  | zero => intro v3 m r h; cases h
  | succ n ih =>
    intro v3 m r h j
    unfold fX9_lay_i1_24 at h
    split at h
    · obtain rfl := Option.some.inj h; rfl
    · split at h
      · split at h
        · rw [ih _ _ _ h j, r_cell (by decide)]
        · cases h
      · cases h
theorem v_cls_i1 {m : sm_S} {len : Int32} (hG : GDt m len.toInt) {m4 : sm_S} (h4 : fX9_lay_i1 len m = some m4) : m4.1 62 0 = (1 : Int32) ∧ m4.1 62 1 = crT m 0 ∧ (m4.1 62 2).toInt = len.toInt - 1 ∧ ∀ k : Nat, (k : Int) < len.toInt - 1 → m4.1 63 k = hdT m k := by
  obtain ⟨g1, g2, g3, g4⟩ := hG
  have l0 := L0
  have e1 : (len - (1 : Int32)).toInt = len.toInt - 1 := a_subl L1 (by omega) (by omega)
  unfold fX9_lay_i1 at h4
  have a0 := v_lay58_i1 _ _ _ _ h4
  obtain ⟨a1, a2, a3⟩ := v_lay_i1 m sm_fu (0 : Int32) _ m4 (Fr.w (Fr.w (Fr.w Fr.refl rfl) rfl) rfl) (by omega) (fun k hk => by omega) h4
  have b2 : m4.1 62 2 = len - (1 : Int32) := a2
  refine ⟨(a0 0).trans rfl, a1, by rw [b2]; exact e1, fun k hk => a3 k ?_⟩
  show (k : Int) < (len - (1 : Int32)).toInt
  omega
/-- the class has laid down the text's tour in the cells a, h -/
def SCv (m : sm_S) (a h : Nat) (len : Int) (m' : sm_S) : Prop := m'.1 a 0 = (1 : Int32) ∧ m'.1 a 1 = crT m 0 ∧ (m'.1 a 2).toInt = len - 1 ∧ ∀ k : Nat, (k : Int) < len - 1 → m'.1 h k = hdT m k
theorem s_t11 {x1 : Int32} {m : sm_S} (hI : zI m) {a : Int32 × sm_S} (ea : fX11_tour x1 m = some a) : ((x1.toInt < 0 ∨ 1 < x1.toInt) ∧ ∀ j : Nat, a.2.1 58 j = m.1 58 j ∧ a.2.1 59 j = m.1 59 j ∧ a.2.1 62 j = m.1 62 j ∧ a.2.1 63 j = m.1 63 j) ∨ ((0 ≤ x1.toInt ∧ x1.toInt ≤ 1) ∧ (∃ p : Nat, BDt m (m.1 1 1).toInt p) ∧ ∀ j : Nat, a.2.1 58 j = m.1 58 j ∧ a.2.1 59 j = m.1 59 j ∧ a.2.1 62 j = m.1 62 j ∧ a.2.1 63 j = m.1 63 j) ∨ (x1.toInt = 0 ∧ GDt m (m.1 1 1).toInt ∧ SCv m 58 59 (m.1 1 1).toInt a.2 ∧ ∀ j : Nat, a.2.1 62 j = m.1 62 j ∧ a.2.1 63 j = m.1 63 j) ∨ (x1.toInt = 1 ∧ GDt m (m.1 1 1).toInt ∧ SCv m 62 63 (m.1 1 1).toInt a.2 ∧ ∀ j : Nat, a.2.1 58 j = m.1 58 j ∧ a.2.1 59 j = m.1 59 j) := by
  have l0 := L0
  have l1 := L1
  have l2 := L2
  have c11 : 0 ≤ (m.1 1 1).toInt ∧ (m.1 1 1).toInt ≤ 80 := hI.1 1 1
  have i1 : zI (sm_w1 m 1 1 (0 : Int32)) := zI.w hI rfl (show 0 ≤ (0 : Int32).toInt ∧ (0 : Int32).toInt ≤ 80 by omega)
  have eT : ∀ k, hdT (sm_w1 m 1 1 (0 : Int32)) k = hdT m k := fun _ => rfl
  have eC : ∀ k, crT (sm_w1 m 1 1 (0 : Int32)) k = crT m k := by
    intro k
    induction k with
    | zero => rfl
    | succ k ih => show otE (sm_w1 m 1 1 (0 : Int32)) _ (crT (sm_w1 m 1 1 (0 : Int32)) k) = otE m _ (crT m k); rw [ih]; rfl
  have eM : ∀ k, mnT (sm_w1 m 1 1 (0 : Int32)) k = mnT m k := by
    intro k
    induction k with
    | zero => rfl
    | succ k ih =>
      show mnT (sm_w1 m 1 1 (0 : Int32)) k + mnF (sm_w1 m 1 1 (0 : Int32)) (hdT m k) (crT (sm_w1 m 1 1 (0 : Int32)) k) = mnT m k + mnF m (hdT m k) (crT m k)
      rw [ih, eC]; rfl
  have eO : ∀ k, okT (sm_w1 m 1 1 (0 : Int32)) k ↔ okT m k := by
    intro k
    unfold okT
    rw [eC]
    exact Iff.rfl
  have eCO : cOK (sm_w1 m 1 1 (0 : Int32)) ↔ cOK m := Iff.rfl
  have eG : GDt (sm_w1 m 1 1 (0 : Int32)) (m.1 1 1).toInt → GDt m (m.1 1 1).toInt := fun ⟨z1, z2, z3, z4⟩ => ⟨z1, z2, z3, fun k hk => (eO k).mp (z4 k hk)⟩
  have eB : ∀ p, BDt (sm_w1 m 1 1 (0 : Int32)) (m.1 1 1).toInt p → BDt m (m.1 1 1).toInt p := by
    intro p h
    rcases h with h | ⟨z1, z2, z3, z4, z5, z6⟩
    · exact Or.inl h
    · exact Or.inr ⟨z1, z2, z3, z4, fun k hk => (eO k).mp (z5 k hk), z6.imp id (fun z y => z ((eO _).mpr y))⟩
  have o : ∀ j : Nat, (sm_w1 m 1 1 (0 : Int32)).1 58 j = m.1 58 j ∧ (sm_w1 m 1 1 (0 : Int32)).1 59 j = m.1 59 j ∧ (sm_w1 m 1 1 (0 : Int32)).1 62 j = m.1 62 j ∧ (sm_w1 m 1 1 (0 : Int32)).1 63 j = m.1 63 j := fun j => ⟨r_cell (by decide), r_cell (by decide), r_cell (by decide), r_cell (by decide)⟩
  unfold fX11_tour at ea
  by_cases g1 : x1 < 0
  · have g1' := ltI.mp g1
    rw [if_pos g1] at ea
    obtain rfl := Option.some.inj ea
    exact Or.inl ⟨by omega, o⟩
  · have g1' := Int.not_lt.mp (fun z => g1 (ltI.mpr z))
    rw [if_neg g1] at ea
    by_cases g2 : x1 < (2 : Int32)
    · have g2' := ltI.mp g2
      rw [if_pos g2] at ea
      obtain ⟨r2, e2, h2⟩ := s_firstBad (m := sm_w1 m 1 1 (0 : Int32)) (len := m.1 1 1) i1 c11
      obtain ⟨r2', e2', -, htF⟩ := zX9_firstBad (m.1 1 1) (sm_w1 m 1 1 (0 : Int32)) c11 i1
      obtain rfl := Option.some.inj (e2.symm.trans e2')
      rw [e2, Option.bind_some] at ea
      by_cases g3 : r2 < 0
      · have g3' := ltI.mp g3
        rw [if_pos g3] at ea
        have hGD : GDt (sm_w1 m 1 1 (0 : Int32)) (m.1 1 1).toInt := by
          rcases h2 with h2 | h2
          · exact h2.2
          · omega
        by_cases g4 : x1 = (0 : Int32)
        · rw [if_pos g4] at ea
          obtain ⟨m4, e4, ⟨-, i4, F4⟩, ea⟩ := v_tail (zX9_lay (m.1 1 1) _ (htF (by omega)) i1) ea
          obtain ⟨c0, c1, c2, c3⟩ := v_cls hGD e4
          obtain ⟨r6, e6, -, i6, F6⟩ := zX9_schedule m4 i4
          rw [e6, Option.bind_some] at ea
          split at ea
          · obtain ⟨m9, e9, ⟨-, i9, F9⟩, ea⟩ := v_tail (zX5_tell _ _ i6) ea
            obtain ⟨r11, -, ea⟩ := bd_some ea
            obtain ⟨m13, e13, ⟨-, i13, F13⟩, ea⟩ := v_tail (zX5_add _ _ i9) ea
            obtain rfl := Option.some.inj ea
            have key : ∀ x : Nat, noA wX9_schedule x = true → noA [(14, 1), (15, 999)] x = true → ∀ j : Nat, m13.1 x j = m4.1 x j := fun x hx hy j => by
              rw [noA.e (W := [(14, 1), (15, 999)]) (Fr.sub F13 rfl) hy, noA.e (W := [(14, 1), (15, 999)]) (Fr.sub F9 rfl) hy, noA.e F6 hx]
            have key2 : ∀ x : Nat, noA wX9_lay x = true → ∀ j : Nat, m4.1 x j = (sm_w1 m 1 1 (0 : Int32)).1 x j := fun x hx j => noA.e F4 hx j
            have o1 : ∀ j : Nat, m13.1 62 j = m.1 62 j := fun j => by rw [key 62 rfl rfl, key2 62 rfl, r_cell (by decide)]
            have o2 : ∀ j : Nat, m13.1 63 j = m.1 63 j := fun j => by rw [key 63 rfl rfl, key2 63 rfl, r_cell (by decide)]
            refine Or.inr (Or.inr (Or.inl ⟨by rw [g4]; exact l0, ?_⟩))
            refine ⟨eG hGD, ⟨by rw [key 58 rfl rfl]; exact c0, by rw [key 58 rfl rfl]; exact c1.trans (eC 0), by rw [key 58 rfl rfl]; exact c2, fun k hk => by rw [key 59 rfl rfl]; exact (c3 k hk).trans (eT k)⟩, fun j => ⟨o1 j, o2 j⟩⟩
          · cases ea
        · have g4' : x1.toInt ≠ 0 := fun z => g4 (eqI.mpr (by rw [z]; exact l0.symm))
          have g5 : x1 = (1 : Int32) := eqI.mpr (by omega)
          rw [if_neg g4, if_pos g5] at ea
          obtain ⟨m4, e4, ⟨-, i4, F4⟩, ea⟩ := v_tail (zX9_lay_i1 (m.1 1 1) _ (htF (by omega)) i1) ea
          obtain ⟨c0, c1, c2, c3⟩ := v_cls_i1 hGD e4
          obtain ⟨r6, e6, -, i6, F6⟩ := zX9_schedule_i1 m4 i4
          rw [e6, Option.bind_some] at ea
          split at ea
          · obtain ⟨m9, e9, ⟨-, i9, F9⟩, ea⟩ := v_tail (zX5_tell _ _ i6) ea
            obtain ⟨r11, -, ea⟩ := bd_some ea
            obtain ⟨m13, e13, ⟨-, i13, F13⟩, ea⟩ := v_tail (zX5_add _ _ i9) ea
            obtain rfl := Option.some.inj ea
            have key : ∀ x : Nat, noA wX9_schedule_i1 x = true → noA [(14, 1), (15, 999)] x = true → ∀ j : Nat, m13.1 x j = m4.1 x j := fun x hx hy j => by
              rw [noA.e (W := [(14, 1), (15, 999)]) (Fr.sub F13 rfl) hy, noA.e (W := [(14, 1), (15, 999)]) (Fr.sub F9 rfl) hy, noA.e F6 hx]
            have key2 : ∀ x : Nat, noA wX9_lay_i1 x = true → ∀ j : Nat, m4.1 x j = (sm_w1 m 1 1 (0 : Int32)).1 x j := fun x hx j => noA.e F4 hx j
            have o1 : ∀ j : Nat, m13.1 58 j = m.1 58 j := fun j => by rw [key 58 rfl rfl, key2 58 rfl, r_cell (by decide)]
            have o2 : ∀ j : Nat, m13.1 59 j = m.1 59 j := fun j => by rw [key 59 rfl rfl, key2 59 rfl, r_cell (by decide)]
            refine Or.inr (Or.inr (Or.inr ⟨by rw [g5]; exact l1, ?_⟩))
            refine ⟨eG hGD, ⟨by rw [key 62 rfl rfl]; exact c0, by rw [key 62 rfl rfl]; exact c1.trans (eC 0), by rw [key 62 rfl rfl]; exact c2, fun k hk => by rw [key 63 rfl rfl]; exact (c3 k hk).trans (eT k)⟩, fun j => ⟨o1 j, o2 j⟩⟩
          · cases ea
      · have g3' := Int.not_lt.mp (fun z => g3 (ltI.mpr z))
        rw [if_neg g3] at ea
        obtain rfl := Option.some.inj ea
        rcases h2 with h2 | ⟨h2a, h2b⟩
        · omega
        · exact Or.inr (Or.inl ⟨by omega, ⟨_, eB _ h2b⟩, o⟩)
    · have g2' := Int.not_lt.mp (fun z => g2 (ltI.mpr z))
      rw [if_neg g2] at ea
      obtain rfl := Option.some.inj ea
      exact Or.inl ⟨by omega, o⟩
