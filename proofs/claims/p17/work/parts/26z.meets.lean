/-! meets, apart -/
theorem XV.mid {V : List (Nat × Nat)} {m s : sm_S} (h : XV m m) (G : Fr V m s) (hn : and (noA V 89) (and (noA V 90) (noA V 91)) = true) : XV m s := by
  obtain ⟨n1, hn⟩ := Bool.and_eq_true_iff.mp hn
  obtain ⟨n2, n3⟩ := Bool.and_eq_true_iff.mp hn
  exact ⟨h.1.cg (fun _ => rfl) (fun _ => rfl) (noA.e G n1 0) (noA.e G n2 0) (fun k _ => noA.e G n3 _) (Int.le_refl _), h.2.cg (fun _ => rfl) (fun _ => rfl) (noA.e G n1 1) (noA.e G n2 1) (fun k _ => noA.e G n3 _) (Int.le_refl _)⟩
theorem s_both {m s : sm_S} (hL : XL m s) (hI : zI m) (hJ : zI s) (hV : XV m s) : (((s.1 89 0).toInt < 0 ∨ (s.1 89 1).toInt < 0) ∧ fX11_scheduleBoth m = some ((0 : Int32), m)) ∨ (0 ≤ (s.1 89 0).toInt ∧ 0 ≤ (s.1 89 1).toInt ∧ ∃ r : sm_S, fX11_scheduleBoth m = some ((1 : Int32), r) ∧ zI r ∧ ∃ (N1 N2 : Nat) (c1 c2 : Int32) (h1 h2 : Nat → Int32), GDv m N1 N2 c1 c2 h1 h2 ∧ TUv s 0 N1 c1 h1 ∧ TUv s 1 N2 c2 h2 ∧ SHv m r N1 N2 c1 c2 h1 h2) := by
  have l0 := L0
  rcases hV with ⟨⟨a, a'⟩ | ⟨a, a2, a3, a4, a5, a6, a7⟩, hV2⟩
  · refine Or.inl ⟨Or.inl a', ?_⟩
    unfold fX11_scheduleBoth
    rw [if_pos a]
  · rcases hV2 with ⟨b, b'⟩ | ⟨b, b2, b3, b4, b5, b6, b7⟩
    · refine Or.inl ⟨Or.inr b', ?_⟩
      unfold fX11_scheduleBoth
      rw [if_neg a, if_pos b]
    · have ea := a_tn a5
      have eb := a_tn b5
      have ok1 : TOK m (fun k => s.1 91 (30 * 0 + k)) (s.1 90 0).toNatClampNeg := fun k hk => by
        obtain ⟨z1, z2, z3⟩ := a7 k (by omega)
        show 0 ≤ (s.1 91 (30 * 0 + k)).toInt ∧ (s.1 91 (30 * 0 + k)).toInt < (m.1 3 1).toInt
        rw [← z1]; exact ⟨z2, z3⟩
      have ok2 : TOK m (fun k => s.1 91 (30 * 1 + k)) (s.1 90 1).toNatClampNeg := fun k hk => by
        obtain ⟨z1, z2, z3⟩ := b7 k (by omega)
        show 0 ≤ (s.1 91 (30 * 1 + k)).toInt ∧ (s.1 91 (30 * 1 + k)).toInt < (m.1 3 1).toInt
        rw [← z1]; exact ⟨z2, z3⟩
      have m1 := mnV_b hL hJ (c0 := s.1 89 0) ok1
      have m2 := mnV_b hL hJ (c0 := s.1 89 1) ok2
      obtain ⟨r2, e2, -, i2, F2⟩ := zX9_schedule m hI
      obtain ⟨r4, e4, -, i4, F4⟩ := zX9_schedule_i1 r2.2 i2
      refine Or.inr ⟨a3, b3, r4.2, ?_, i4, (s.1 90 0).toNatClampNeg, (s.1 90 1).toNatClampNeg, s.1 89 0, s.1 89 1, (fun k => s.1 91 (30 * 0 + k)), (fun k => s.1 91 (30 * 1 + k)), ⟨by omega, by omega, a3, b3, ok1, ok2⟩, ⟨rfl, ea.symm, fun k _ => rfl⟩, ⟨rfl, eb.symm, fun k _ => rfl⟩, ?_⟩
      · unfold fX11_scheduleBoth
        rw [if_neg a, if_neg b, e2, Option.bind_some, e4, Option.bind_some]
      · have F2x : ∀ x : Nat, x < 14 → ∀ j : Nat, r2.2.1 x j = m.1 x j := by
          intro x hx j
          have hxs : x = 0 ∨ x = 1 ∨ x = 2 ∨ x = 3 ∨ x = 4 ∨ x = 5 ∨ x = 6 ∨ x = 7 ∨ x = 8 ∨ x = 9 ∨ x = 10 ∨ x = 11 ∨ x = 12 ∨ x = 13 := by omega
          rcases hxs with rfl | rfl | rfl | rfl | rfl | rfl | rfl | rfl | rfl | rfl | rfl | rfl | rfl | rfl <;> exact F2 _ j rfl
        have n58 : (m.1 58 2).toInt = (((s.1 90 0).toNatClampNeg : Nat) : Int) := by rw [a4]; exact ea.symm
        have n62 : (m.1 62 2).toInt = (((s.1 90 1).toNatClampNeg : Nat) : Int) := by rw [b4]; exact eb.symm
        unfold fX9_schedule at e2
        have k2 := v_sc m hI (s.1 90 0).toNatClampNeg (by omega) (s.1 89 0) (fun k => s.1 91 (30 * 0 + k)) ok1 m1 sm_fu (0 : Int32) _ r2 (fun x hx j => by rw [r_cell (by omega), r_cell (by omega)]) (by rw [r_cell (by decide), r_cell (by decide)]; exact n58) (fun k hk => by rw [r_cell (by decide), r_cell (by decide)]; exact (a7 k (by omega)).1) (by omega) (by omega) (fun k hk => by
          have hk0 : k = 0 := by omega
          subst hk0
          rw [r_cell (by decide), r_hit, r_hit]
          exact ⟨a2, l0⟩) e2
        unfold fX9_schedule_i1 at e4
        have k4 := v_sc_i1 m hI (s.1 90 1).toNatClampNeg (by omega) (s.1 89 1) (fun k => s.1 91 (30 * 1 + k)) ok2 m2 sm_fu (0 : Int32) _ r4 (fun x hx j => by rw [r_cell (by omega), r_cell (by omega)]; exact F2x x hx j) (by rw [r_cell (by decide), r_cell (by decide), F2 62 2 rfl]; exact n62) (fun k hk => by rw [r_cell (by decide), r_cell (by decide), F2 63 k rfl]; exact (b7 k (by omega)).1) (by omega) (by omega) (fun k hk => by
          have hk0 : k = 0 := by omega
          subst hk0
          rw [r_cell (by decide), r_hit, r_hit, F2 62 1 rfl]
          exact ⟨b2, l0⟩) e4
        refine ⟨by rw [F4 58 2 rfl, F2 58 2 rfl]; exact n58, by rw [F4 62 2 rfl, F2 62 2 rfl]; exact n62, fun k hk => ?_, fun k hk => ?_⟩
        · have := m1 k hk
          rw [F4 60 k rfl, F4 61 k rfl]
          exact ⟨(k2 k hk).1, (k2 k hk).2, this.1, by omega⟩
        · have := m2 k hk
          exact ⟨(k4 k hk).1, (k4 k hk).2, this.1, by omega⟩
theorem tv_meets {x1 : Int32} {m s : sm_S} (hR : RX m s) (hV : XV m s) (hI : zI m) (hJ : zI s) : TR (fun a b => a.1 = b.1) (fX11_meets x1 m) (fX12_meets x1 s) := by
  have l0 := L0
  have ln1 := Ln1
  have l99 := L99
  have ll0 := LL0
  have ll99 : (99 : Int64).toInt = 99 := by decide
  have hL : XL m s := hR.2.1
  have ex1 : x1.toInt64.toInt = x1.toInt := Int32.toInt_toInt64 _
  have i0 : zI (sm_w1 s 72 0 (0 : Int32)) := zI.w hJ rfl (show 0 ≤ (0 : Int32).toInt ∧ (0 : Int32).toInt ≤ 1 by omega)
  have F0 : Fr [(72, 0)] s (sm_w1 s 72 0 (0 : Int32)) := Fr.w Fr.refl rfl
  obtain ⟨a, ea, -, -⟩ := zX11_meets x1 m hI
  obtain ⟨b, eb, -, -⟩ := zX12_meets x1 s hJ
  refine ⟨a, b, ea, eb, ?_⟩
  have k12 : ((x1.toInt < 0 ∨ 99 < x1.toInt) ∧ b.1 = (-1 : Int32)) ∨ ((0 ≤ x1.toInt ∧ x1.toInt ≤ 99) ∧ ((((s.1 89 0).toInt < 0 ∨ (s.1 89 1).toInt < 0) ∧ b.1 = (-3 : Int32)) ∨ ((0 ≤ (s.1 89 0).toInt ∧ 0 ≤ (s.1 89 1).toInt) ∧ ∃ r4 : Int32 × sm_S, fX12_meetsBy x1 (sm_w1 s 72 0 (0 : Int32)) = some r4 ∧ b.1 = r4.1))) := by
    unfold fX12_meets at eb
    obtain ⟨r2, e2, -, -, h2⟩ := zX12_in x1.toInt64 (0 : Int64) (99 : Int64) (sm_w1 s 72 0 (0 : Int32)) (by omega) i0
    rw [e2, Option.bind_some] at eb
    by_cases q : r2 = 0
    · have q' : r2.toInt = 0 := by rw [q]; exact l0
      rw [if_pos q] at eb
      obtain rfl := Option.some.inj eb
      exact Or.inl ⟨by omega, rfl⟩
    · have q' : r2.toInt ≠ 0 := fun z => q (eqI.mpr (by rw [z]; exact l0.symm))
      rw [if_neg q] at eb
      refine Or.inr ⟨by omega, ?_⟩
      by_cases g : (s.1 89 0) < 0
      · have g' := ltI.mp g
        rw [if_pos g] at eb
        obtain rfl := Option.some.inj eb
        exact Or.inl ⟨Or.inl (by omega), rfl⟩
      · have g' := Int.not_lt.mp (fun z => g (ltI.mpr z))
        rw [if_neg g] at eb
        by_cases g2 : 0 ≤ (s.1 89 1)
        · have g2' := leI.mp g2
          rw [if_pos g2] at eb
          obtain ⟨r4, e4, eb⟩ := bd_some eb
          refine Or.inr ⟨⟨by omega, by omega⟩, r4, e4, ?_⟩
          by_cases q4 : r4.1 < 0
          · rw [if_pos q4] at eb
            obtain rfl := Option.some.inj eb; rfl
          · rw [if_neg q4] at eb
            obtain ⟨r6, -, eb⟩ := bd_some eb
            obtain ⟨m8, -, eb⟩ := bd_some eb
            obtain rfl := Option.some.inj eb; rfl
        · have g2' := Int.not_le.mp (fun z => g2 (leI.mpr z))
          rw [if_neg g2] at eb
          obtain rfl := Option.some.inj eb
          exact Or.inl ⟨Or.inr (by omega), rfl⟩
  unfold fX11_meets at ea
  by_cases g1 : x1 < 0
  · have g1' := ltI.mp g1
    rw [if_pos g1] at ea
    obtain rfl := Option.some.inj ea
    rcases k12 with ⟨-, k⟩ | ⟨k, -⟩
    · exact k.symm
    · omega
  · have g1' := Int.not_lt.mp (fun z => g1 (ltI.mpr z))
    rw [if_neg g1] at ea
    by_cases g2 : x1 ≤ (99 : Int32)
    · have g2' := leI.mp g2
      rw [if_pos g2] at ea
      rcases k12 with ⟨k, -⟩ | ⟨-, k12⟩
      · omega
      · rcases s_both hL hI hJ hV with ⟨hz, e⟩ | ⟨n1, n2, r, e, ir, N1, N2, c1, c2, h1, h2, hG, hT1, hT2, hS⟩
        · rw [e, Option.bind_some, if_pos (show ((0 : Int32), m).1 = 0 from rfl)] at ea
          obtain rfl := Option.some.inj ea
          rcases k12 with ⟨-, k⟩ | ⟨k, -⟩
          · exact k.symm
          · omega
        · have n10 : ¬ ((1 : Int32), r).1 = 0 := show ¬ ((1 : Int32) = 0) by decide
          obtain ⟨r4, e4, h4⟩ := s_first (w := x1) ir hG.1 hG.2.1 ⟨by omega, by omega⟩ hS
          rw [e, Option.bind_some, if_neg n10, e4, Option.bind_some] at ea
          rcases k12 with ⟨k, -⟩ | ⟨-, r5, e5, k⟩
          · omega
          · have hC0 : CNv m (sm_w1 s 72 0 (0 : Int32)) N1 N2 c1 c2 h1 h2 := CNv.fr ⟨hL, hJ, hT1, hT2⟩ F0 i0 rfl rfl
            obtain ⟨r5', e5', -, h5⟩ := s_meetsBy hI hG hC0 (w := x1) ⟨by omega, by omega⟩
            obtain rfl := Option.some.inj (e5.symm.trans e5')
            show a.1 = b.1
            rw [k]
            by_cases q : 0 ≤ r4
            · have q' := leI.mp q
              rw [if_pos q] at ea
              obtain ⟨m6, -, ea⟩ := bd_some ea
              obtain rfl := Option.some.inj ea
              rcases h4 with ⟨h4, -⟩ | ⟨t, c, h4, t0, t1, c0, c9, hM, hl⟩
              · omega
              · obtain ⟨-, u2⟩ := unpack (r := r4) ⟨by omega, by omega⟩
                rcases h5 with ⟨-, h5⟩ | ⟨y1, y2, y3, y4⟩
                · exact absurd hM (h5 t t0)
                · have a1 := hl _ y1 y3
                  have a2 := y4 t t0 hM
                  exact eqI.mpr (u2.trans (by omega))
            · have q' := Int.not_le.mp (fun z => q (leI.mpr z))
              rw [if_neg q] at ea
              obtain rfl := Option.some.inj ea
              rcases h4 with ⟨-, h4⟩ | ⟨t, c, h4, t0, t1, c0, c9, hM, hl⟩
              · rcases h5 with ⟨h5, -⟩ | ⟨y1, y2, y3, y4⟩
                · exact eqI.mpr (by rw [h5]; show (-2 : Int32).toInt = -2; decide)
                · exact absurd y3 (h4 _ y1)
              · omega
    · have g2' := Int.not_le.mp (fun z => g2 (leI.mpr z))
      rw [if_neg g2] at ea
      obtain rfl := Option.some.inj ea
      rcases k12 with ⟨-, k⟩ | ⟨k, -⟩
      · exact k.symm
      · omega
theorem v_apart {m r : sm_S} (hI : zI m) (ir : zI r) {N1 N2 : Nat} {c1 c2 : Int32} {h1 h2 : Nat → Int32} (hG : GDv m N1 N2 c1 c2 h1 h2) (hS : SHv m r N1 N2 c1 c2 h1 h2) : ∀ (n : Nat) (v1 : Int32) (s : sm_S), CNv m s N1 N2 c1 c2 h1 h2 → 0 ≤ v1.toInt → v1.toInt ≤ 100 → 100 - v1.toInt < (n : Int) → TR (fun a b => a.1 = b.1) (fX11_apart_12 n v1 r) (fX12_apart_28 n v1 s) := by
  have l0 := L0
  have l99 := L99
  intro n
  induction n with
  | zero => intro v1 s hC h0 h1 hn; have hz : ((0 : Nat) : Int) = 0 := rfl; omega
  | succ n ih =>
    intro v1 s hC h0 h1 hn
    have hnn : ((n + 1 : Nat) : Int) = (n : Int) + 1 := by omega
    unfold fX11_apart_12 fX12_apart_28
    refine tl_lt (fun g => tr_lt (fun _ => t_ret rfl) (fun g' => by omega)) (fun g => tr_lt (fun g' => by omega) (fun _ => ?_))
    have e1 : (v1 + (1 : Int32)).toInt = v1.toInt + 1 := a_addl L1 (by omega) (by omega)
    refine tl_bd (s_first (w := v1) ir hG.1 hG.2.1 ⟨by omega, by omega⟩ hS) (fun r4 h4 => ?_)
    refine tr_bd (s_meetsBy hI hG hC (w := v1) ⟨by omega, by omega⟩) (fun r2 h2' => ?_)
    obtain ⟨hC2, h5⟩ := h2'
    refine tl_le (fun g4 => tr_le (fun _ => ih (v1 + (1 : Int32)) r2.2 hC2 (by omega) (by omega) (by omega)) (fun g5 => ?_)) (fun g4 => tr_le (fun g5 => ?_) (fun _ => t_ret rfl))
    · rcases h4 with ⟨h4, -⟩ | ⟨t, c, h4, t0, t1, c0, c9, hM, hl⟩
      · omega
      · rcases h5 with ⟨-, h5⟩ | ⟨y1, -⟩
        · exact absurd hM (h5 t t0)
        · omega
    · rcases h4 with ⟨-, h4⟩ | ⟨t, c, h4, t0, t1, c0, c9, hM, hl⟩
      · rcases h5 with ⟨h5, -⟩ | ⟨y1, y2, y3, y4⟩
        · omega
        · exact absurd y3 (h4 _ y1)
      · omega
theorem tv_apart {m s : sm_S} (hR : RX m s) (hV : XV m s) (hI : zI m) (hJ : zI s) : TR (fun a b => a.1 = b.1) (fX11_apart m) (fX12_apart s) := by
  have l0 := L0
  have hfu := fuE
  have hL : XL m s := hR.2.1
  have i0 : zI (sm_w1 s 72 0 (0 : Int32)) := zI.w hJ rfl (show 0 ≤ (0 : Int32).toInt ∧ (0 : Int32).toInt ≤ 1 by omega)
  have F0 : Fr [(72, 0)] s (sm_w1 s 72 0 (0 : Int32)) := Fr.w Fr.refl rfl
  unfold fX11_apart fX12_apart
  rcases s_both hL hI hJ hV with ⟨hz, e⟩ | ⟨n1, n2, r, e, ir, N1, N2, c1, c2, h1, h2, hG, hT1, hT2, hS⟩
  · rw [e, Option.bind_some, if_pos (show ((0 : Int32), m).1 = 0 from rfl)]
    refine tr_lt (fun _ => t_ret rfl) (fun g => tr_le (fun g' => by omega) (fun _ => t_ret rfl))
  · have n10 : ¬ ((1 : Int32), r).1 = 0 := show ¬ ((1 : Int32) = 0) by decide
    rw [e, Option.bind_some, if_neg n10]
    refine tr_lt (fun g => by omega) (fun _ => tr_le (fun _ => ?_) (fun g => by omega))
    exact v_apart hI ir hG hS sm_fu (0 : Int32) _ (CNv.fr ⟨hL, hJ, hT1, hT2⟩ F0 i0 rfl rfl) (by omega) (by omega) (by omega)
