/-! A TOUR'S TEXT, read by both -/
def otE (m : sm_S) (h c : Int32) : Int32 := if m.1 6 h.toNatClampNeg = c then m.1 7 h.toNatClampNeg else m.1 6 h.toNatClampNeg
def mnF (m : sm_S) (h c : Int32) : Int32 := if m.1 6 h.toNatClampNeg = c then m.1 8 h.toNatClampNeg else m.1 8 h.toNatClampNeg + m.1 12 h.toNatClampNeg
theorem e_other11 {m : sm_S} {h c : Int32} (hh : 0 ≤ h.toInt ∧ h.toInt < ((14 : Nat) : Int)) : fX2_otherEnd h c m = some (otE m h c) := by
  unfold fX2_otherEnd otE
  rw [if_pos (ix_in hh), if_pos (ix_in hh), if_pos (ix_in hh)]
  split <;> rfl
theorem e_mins11 {m : sm_S} {h c : Int32} (hh : 0 ≤ h.toInt ∧ h.toInt < ((14 : Nat) : Int)) : fX2_minutesFrom h c m = some (mnF m h c) := by
  unfold fX2_minutesFrom mnF
  rw [if_pos (ix_in hh), if_pos (ix_in hh), if_pos (ix_in hh), if_pos (ix_in hh)]
  split <;> rfl
theorem e_other12 {m s : sm_S} {h c : Int32} (hL : XL m s) (hI : zI m) (h0 : 0 ≤ h.toInt) (h1 : h.toInt < (m.1 3 1).toInt) : fX12_endOf h c s = some (otE m h c) := by
  have c31 : 0 ≤ (m.1 3 1).toInt ∧ (m.1 3 1).toInt ≤ 14 := hI.1 3 1
  have hh : 0 ≤ h.toInt ∧ h.toInt < ((14 : Nat) : Int) := by omega
  obtain ⟨q1, q2, -⟩ := hL.row h0 h1
  unfold fX12_endOf otE
  rw [if_pos (ix_in hh), if_pos (ix_in hh), if_pos (ix_in hh), ← q1, ← q2]
  split <;> rfl
theorem e_mins12 {m s : sm_S} {h c : Int32} (hL : XL m s) (hI : zI m) (h0 : 0 ≤ h.toInt) (h1 : h.toInt < (m.1 3 1).toInt) : fX12_minutesFrom h c s = some (mnF m h c) := by
  have c31 : 0 ≤ (m.1 3 1).toInt ∧ (m.1 3 1).toInt ≤ 14 := hI.1 3 1
  have hh : 0 ≤ h.toInt ∧ h.toInt < ((14 : Nat) : Int) := by omega
  obtain ⟨q1, q2, q3, -, -, -, q7, -⟩ := hL.row h0 h1
  unfold fX12_minutesFrom mnF
  rw [if_pos (ix_in hh), if_pos (ix_in hh), if_pos (ix_in hh), ← q1, ← q3, ← q7]
  by_cases q : m.1 6 h.toNatClampNeg = c
  · rw [if_pos q.symm, if_pos q, Int32.add_zero]
  · rw [if_neg (fun z => q z.symm), if_neg q]
theorem otE.b {m : sm_S} (hI : zI m) (h c : Int32) : 0 ≤ (otE m h c).toInt ∧ (otE m h c).toInt ≤ 9 := by
  have a : 0 ≤ (m.1 6 h.toNatClampNeg).toInt ∧ (m.1 6 h.toNatClampNeg).toInt ≤ 9 := hI.1 6 _
  have b : 0 ≤ (m.1 7 h.toNatClampNeg).toInt ∧ (m.1 7 h.toNatClampNeg).toInt ≤ 9 := hI.1 7 _
  unfold otE
  split
  · exact b
  · exact a
/-- the tour that the text tells: hedge, corner, minutes at each place -/
def hdT (m : sm_S) (k : Nat) : Int32 := (m.1 2 (k + 1)) - (65 : Int32)
def crT (m : sm_S) : Nat → Int32
  | 0 => (m.1 2 0) - (97 : Int32)
  | k + 1 => otE m (hdT m k) (crT m k)
def mnT (m : sm_S) : Nat → Int32
  | 0 => 0
  | k + 1 => mnT m k + mnF m (hdT m k) (crT m k)
def okT (m : sm_S) (k : Nat) : Prop := 0 ≤ (hdT m k).toInt ∧ (hdT m k).toInt < (m.1 3 1).toInt ∧ (m.1 6 (hdT m k).toNatClampNeg = crT m k ∨ m.1 7 (hdT m k).toNatClampNeg = crT m k)
def cOK (m : sm_S) : Prop := 0 ≤ (crT m 0).toInt ∧ (crT m 0).toInt < (m.1 3 0).toInt
/-- all of it stands; or p is the first place that can't -/
def GDt (m : sm_S) (len : Int) : Prop := 1 ≤ len ∧ len ≤ 30 ∧ cOK m ∧ ∀ k : Nat, (k : Int) < len - 1 → okT m k
def BDt (m : sm_S) (len : Int) (p : Nat) : Prop := (p = 0 ∧ (len = 0 ∨ ¬ cOK m)) ∨ (1 ≤ p ∧ (p : Int) < len ∧ p ≤ 30 ∧ cOK m ∧ (∀ k : Nat, k + 1 < p → okT m k) ∧ (p = 30 ∨ ¬ okT m (p - 1)))
theorem e_touch11 {m : sm_S} {h c : Int32} (hh : 0 ≤ h.toInt ∧ h.toInt < ((14 : Nat) : Int)) : fX2_touches h c m = some (if (m.1 6 h.toNatClampNeg = c ∨ m.1 7 h.toNatClampNeg = c) then (1 : Int32) else 0) := by
  unfold fX2_touches
  rw [if_pos (ix_in hh), if_pos (ix_in hh)]
  by_cases q : m.1 6 h.toNatClampNeg = c
  · rw [if_pos q, if_pos (Or.inl q)]
  · rw [if_neg q]
    by_cases q2 : m.1 7 h.toNatClampNeg = c
    · rw [if_pos q2, if_pos (Or.inr q2)]
    · rw [if_neg q2, if_neg (fun z => z.elim q q2)]
theorem e_isEnd12 {m s : sm_S} {h c : Int32} (hL : XL m s) (hI : zI m) (h0 : 0 ≤ h.toInt) (h1 : h.toInt < (m.1 3 1).toInt) : fX12_isEnd h c s = some (if (m.1 6 h.toNatClampNeg = c ∨ m.1 7 h.toNatClampNeg = c) then (1 : Int32) else 0) := by
  have c31 : 0 ≤ (m.1 3 1).toInt ∧ (m.1 3 1).toInt ≤ 14 := hI.1 3 1
  have hh : 0 ≤ h.toInt ∧ h.toInt < ((14 : Nat) : Int) := by omega
  obtain ⟨q1, q2, -⟩ := hL.row h0 h1
  unfold fX12_isEnd
  rw [if_pos (ix_in hh), if_pos (ix_in hh), ← q1, ← q2]
  by_cases q : m.1 6 h.toNatClampNeg = c
  · rw [if_pos q, if_pos (Or.inl q)]
  · rw [if_neg q]
    by_cases q2 : m.1 7 h.toNatClampNeg = c
    · rw [if_pos q2, if_pos (Or.inr q2)]
    · rw [if_neg q2, if_neg (fun z => z.elim q q2)]
theorem v_firstBad : ∀ (n : Nat) (v2 v3 v4 : Int32) (m : sm_S), zI m → 1 ≤ v4.toInt → v4.toInt ≤ 30 → v4.toInt ≤ v2.toInt → v2.toInt ≤ 80 → 30 - v4.toInt < (n : Int) → v3 = crT m (v4.toNatClampNeg - 1) → cOK m → (∀ k : Nat, (k : Int) < v4.toInt - 1 → okT m k) → Sf (fun r => (r.toInt = -1 ∧ GDt m v2.toInt) ∨ (0 ≤ r.toInt ∧ BDt m v2.toInt r.toNatClampNeg)) (fX9_firstBad_29 n v2 v3 v4 m) := by
  have l0 := L0
  have l1 := L1
  have ln1 := Ln1
  have l30 := L30
  intro n
  induction n with
  | zero => intro v2 v3 v4 m hI h0 h1 h2 h3 hn; have hz : ((0 : Nat) : Int) = 0 := rfl; omega
  | succ n ih =>
    intro v2 v3 v4 m hI h0 h1 h2 h3 hn hc hcO hk
    have hnn : ((n + 1 : Nat) : Int) = (n : Int) + 1 := by omega
    have et := a_tn (x := v4) (by omega)
    have c31 : 0 ≤ (m.1 3 1).toInt ∧ (m.1 3 1).toInt ≤ 14 := hI.1 3 1
    have e4 : (v4 + (1 : Int32)).toInt = v4.toInt + 1 := a_addl L1 (by omega) (by omega)
    have hs : (v4 + (1 : Int32)).toNatClampNeg = v4.toNatClampNeg + 1 := by
      have := a_tn (x := v4 + (1 : Int32)) (by omega)
      omega
    have hp : v4.toNatClampNeg - 1 + 1 = v4.toNatClampNeg := by omega
    have ehd : (m.1 2 v4.toNatClampNeg) - (65 : Int32) = hdT m (v4.toNatClampNeg - 1) := by unfold hdT; rw [hp]
    unfold fX9_firstBad_29
    refine s_le (fun g => ?_) (fun g => ?_)
    · by_cases q30 : v2.toInt ≤ 30
      · exact s_ret (Or.inl ⟨ln1, by omega, q30, hcO, fun k hk2 => hk k (by omega)⟩)
      · omega
    · refine s_ix (by omega) ?_
      refine s_le (fun g2 => s_ret (Or.inr ⟨by omega, Or.inr ⟨by omega, by omega, by omega, hcO, fun k hk2 => hk k (by omega), Or.inl (by omega)⟩⟩)) (fun g2 => ?_)
      rw [ehd]
      have bad : ¬ okT m (v4.toNatClampNeg - 1) → (0 ≤ v4.toInt ∧ BDt m v2.toInt v4.toNatClampNeg) := fun hb => ⟨by omega, Or.inr ⟨by omega, by omega, by omega, hcO, fun k hk2 => hk k (by omega), Or.inr hb⟩⟩
      refine s_bd (zX2_hasHedge _ m hI) (fun r5 h5 => ?_)
      obtain ⟨-, -, h5⟩ := h5
      refine s_eq (fun g5 => s_ret (Or.inr (bad (fun z => by obtain ⟨z1, z2, -⟩ := z; omega)))) (fun g5 => ?_)
      have hh : 0 ≤ (hdT m (v4.toNatClampNeg - 1)).toInt ∧ (hdT m (v4.toNatClampNeg - 1)).toInt < ((14 : Nat) : Int) := by omega
      rw [e_touch11 hh, Option.bind_some]
      by_cases q : (m.1 6 (hdT m (v4.toNatClampNeg - 1)).toNatClampNeg = v3 ∨ m.1 7 (hdT m (v4.toNatClampNeg - 1)).toNatClampNeg = v3)
      · rw [if_pos q, if_neg (show ¬ ((1 : Int32) = 0) by decide), e_other11 hh, Option.bind_some]
        have okk : okT m (v4.toNatClampNeg - 1) := ⟨by omega, by omega, by rw [← hc]; exact q⟩
        refine ih v2 _ (v4 + (1 : Int32)) m hI (by omega) (by omega) (by omega) h3 (by omega) ?_ hcO (fun k hk2 => ?_)
        · rw [hs, show v4.toNatClampNeg + 1 - 1 = (v4.toNatClampNeg - 1) + 1 by omega, hc]; rfl
        · by_cases qk : k = v4.toNatClampNeg - 1
          · subst qk; exact okk
          · exact hk k (by omega)
      · rw [if_neg q, if_pos rfl]
        exact s_ret (Or.inr (bad (fun z => q (by rw [hc]; exact z.2.2))))
theorem s_firstBad {m : sm_S} {len : Int32} (hI : zI m) (hl : 0 ≤ len.toInt ∧ len.toInt ≤ 80) : Sf (fun r => (r.toInt = -1 ∧ GDt m len.toInt) ∨ (0 ≤ r.toInt ∧ BDt m len.toInt r.toNatClampNeg)) (fX9_firstBad len m) := by
  have l0 := L0
  have l1 := L1
  have hfu := fuE
  have z0 : (0 : Int32).toNatClampNeg = 0 := by decide
  have z1 : (1 : Int32).toNatClampNeg = 1 := by decide
  unfold fX9_firstBad
  refine s_eq (fun g => s_ret (Or.inr ⟨by omega, Or.inl ⟨z0, Or.inl (by omega)⟩⟩)) (fun g => ?_)
  refine s_bd (zX2_hasCorner _ m hI) (fun r2 h2 => ?_)
  obtain ⟨-, -, h2⟩ := h2
  have ecr : crT m 0 = (m.1 2 0) - (97 : Int32) := rfl
  refine s_eq (fun g2 => s_ret (Or.inr ⟨by omega, Or.inl ⟨z0, Or.inr (fun z => ?_)⟩⟩)) (fun g2 => ?_)
  · unfold cOK at z; rw [ecr] at z; omega
  · exact v_firstBad sm_fu len _ (1 : Int32) m hI (by omega) (by omega) (by omega) hl.2 (by omega) (by rw [z1]; rfl) (by unfold cOK; rw [ecr]; omega) (fun k hk => by omega)
/-! the reference -/
theorem v_enters {x : Int32} {s s' : sm_S} (h : fX12_enters x s = some s') : True := trivial
theorem v_tour218 : ∀ (n : Nat) (v1 v4 v5 v6 v7 v10 : Int32) (s : sm_S) (b : Int32 × sm_S), fX12_tour_218 n v1 v4 v5 v6 v7 v10 s = some b → b.1 = v6 := by
  intro n
  induction n with
  | zero => intro v1 v4 v5 v6 v7 v10 s b h; cases h
  | succ n ih =>
    intro v1 v4 v5 v6 v7 v10 s b h
    unfold fX12_tour_218 at h
    split at h
    · cases e1 : fX12_enters v4 (sm_w1 s 72 1 (0 : Int32)) with
      | none => rw [e1] at h; cases h
      | some z =>
        rw [e1, Option.bind_some] at h
        cases e2 : fX12_enters v7 z with
        | none => rw [e2] at h; cases h
        | some y => rw [e2] at h; obtain rfl := Option.some.inj h; rfl
    · split at h
      · split at h
        · exact ih _ _ _ _ _ _ _ _ h
        · cases h
      · cases h
/-- the reference under way in a tour's text -/
def TG (m s : sm_S) (len : Int) : Prop := XL m s ∧ zI s ∧ (∀ j : Nat, (j : Int) < len → m.1 2 j = s.1 84 j) ∧ (s.1 72 23).toInt ≤ len ∧ (s.1 72 23).toInt ≤ 30 ∧ ((s.1 72 23).toInt = len ∨ ((s.1 72 23).toInt = 30 ∧ 30 < len))
theorem tour_end {v1 v3 v4 v5 v6 v7 : Int32} {s : sm_S} {f : Int32} {b : Int32 × sm_S} (h : (if 0 ≤ f then (if sm_ix v1 2 then (if sm_ix v1 2 then (fX12_tour_218 sm_fu v1 v4 v5 v6 v7 (0 : Int32) (sm_w1 (sm_w1 s 89 (v1).toNatClampNeg v3) 90 (v1).toNatClampNeg v5)) else none) else none) else (some (f, s))) = some b) : (0 ≤ f.toInt → b.1 = v6) ∧ (f.toInt < 0 → b.1 = f) := by
  have l0 := L0
  by_cases q : 0 ≤ f
  · rw [if_pos q] at h
    have := leI.mp q
    refine ⟨fun _ => ?_, fun z => by omega⟩
    split at h
    · exact v_tour218 _ _ _ _ _ _ _ _ _ h
    · cases h
  · rw [if_neg q] at h
    have := Int.not_le.mp (fun z => q (leI.mpr z))
    obtain rfl := Option.some.inj h
    exact ⟨fun z => by omega, fun _ => rfl⟩
theorem v_tour62 (m : sm_S) (hI : zI m) (len : Int32) (hl : 0 ≤ len.toInt ∧ len.toInt ≤ 80) : ∀ (n : Nat) (v1 v3 v4 v5 v6 v7 v8 : Int32) (s : sm_S) (b : Int32 × sm_S), TG m s len.toInt → 0 ≤ (s.1 72 22).toInt → (s.1 72 22).toInt ≤ (s.1 72 23).toInt → (v8.toInt = 0 ∨ v8.toInt = 1) → (v8.toInt = 0 → BDt m len.toInt (s.1 72 22).toNatClampNeg ∧ (s.1 72 22).toInt < 30) → (v8.toInt = 1 → 1 ≤ (s.1 72 22).toInt ∧ 0 ≤ v5.toInt ∧ v5.toInt + 1 = (s.1 72 22).toInt ∧ v4 = crT m v5.toNatClampNeg ∧ v6 = mnT m v5.toNatClampNeg ∧ cOK m ∧ ∀ k : Nat, (k : Int) < v5.toInt → okT m k) → fX12_tour_62 n v1 len v3 v4 v5 v6 v7 v8 s = some b → (GDt m len.toInt ∧ b.1 = mnT m (len.toInt.toNat - 1)) ∨ (∃ p : Nat, BDt m len.toInt p ∧ b.1.toInt = -1 - (p : Int)) := by
  have l0 := L0
  have l1 := L1
  have l30 := L30
  have c31 : 0 ≤ (m.1 3 1).toInt ∧ (m.1 3 1).toInt ≤ 14 := hI.1 3 1
  intro n
  induction n with
  | zero => intro v1 v3 v4 v5 v6 v7 v8 s b hG h0 h1 h8 ha hb h; cases h
  | succ n ih =>
    intro v1 v3 v4 v5 v6 v7 v8 s b hG h0 h1 h8 ha hb h
    obtain ⟨hL, hJ, ht, hto, hto3, htoE⟩ := hG
    have e31 := hL.hedge
    have et := a_tn h0
    unfold fX12_tour_62 at h
    by_cases g8 : v8 = 0
    · have g8' : v8.toInt = 0 := by rw [g8]; exact l0
      obtain ⟨hB, hlt⟩ := ha g8'
      rw [if_pos g8] at h
      obtain ⟨f, ef, -, -, hf⟩ := zX12_faultOf_v len (30 : Int32) v8 s (by omega) hJ
      rw [ef, Option.bind_some] at h
      have hte := tour_end h
      have ef2 : f.toInt = -1 - (s.1 72 22).toInt := by rcases hf with q | ⟨q, q2 | q2⟩ <;> omega
      exact Or.inr ⟨_, hB, by rw [hte.2 (by omega)]; omega⟩
    · have g8' : v8.toInt = 1 := by
        rcases h8 with z | z
        · exact absurd (eqI.mpr (by rw [z]; exact l0.symm)) g8
        · exact z
      obtain ⟨b1, b2, b3, b4, b5, b6, b7⟩ := hb g8'
      have et5 := a_tn b2
      rw [if_neg g8] at h
      by_cases g : (s.1 72 23) ≤ (s.1 72 22)
      · have g' := leI.mp g
        rw [if_pos g] at h
        obtain ⟨f, ef, -, -, hf⟩ := zX12_faultOf_v len (30 : Int32) v8 s (by omega) hJ
        rw [ef, Option.bind_some] at h
        have hte := tour_end h
        by_cases q30 : len.toInt ≤ 30
        · have ef2 : f.toInt = 0 := by rcases hf with q | ⟨q, q2 | q2⟩ <;> omega
          have e5 : v5.toNatClampNeg = len.toInt.toNat - 1 := by omega
          exact Or.inl ⟨⟨by omega, q30, b6, fun k hk => b7 k (by omega)⟩, by rw [hte.1 (by omega), b5, e5]⟩
        · have ef2 : f.toInt = -1 - 30 := by rcases hf with q | ⟨q, q2 | q2⟩ <;> omega
          refine Or.inr ⟨30, Or.inr ⟨by decide, by omega, by decide, b6, fun k hk => b7 k (by omega), Or.inl rfl⟩, by rw [hte.2 (by omega)]; omega⟩
      · have g' := Int.not_le.mp (fun z => g (leI.mpr z))
        have hx80 : 0 ≤ (s.1 72 22).toInt ∧ (s.1 72 22).toInt < ((80 : Nat) : Int) := by omega
        rw [if_neg g, if_pos (ix_in hx80)] at h
        have hch : (s.1 84 (s.1 72 22).toNatClampNeg) - (65 : Int32) = hdT m v5.toNatClampNeg := by
          unfold hdT
          rw [← ht _ (by omega), show v5.toNatClampNeg + 1 = (s.1 72 22).toNatClampNeg by omega]
        rw [hch] at h
        obtain ⟨r23, e23, -, -, h23⟩ := zX12_isHedge (hdT m v5.toNatClampNeg) s hJ
        rw [e23, Option.bind_some] at h
        have bad : ¬ okT m v5.toNatClampNeg → BDt m len.toInt (s.1 72 22).toNatClampNeg ∧ (s.1 72 22).toInt < 30 := by
          intro z
          refine ⟨Or.inr ⟨by omega, by omega, by omega, b6, fun k hk => b7 k (by omega), Or.inr ?_⟩, by omega⟩
          rw [show (s.1 72 22).toNatClampNeg - 1 = v5.toNatClampNeg by omega]; exact z
        have goBad : ¬ okT m v5.toNatClampNeg → fX12_tour_62 n v1 len v3 v4 v5 v6 v7 (0 : Int32) s = some b → (GDt m len.toInt ∧ b.1 = mnT m (len.toInt.toNat - 1)) ∨ (∃ p : Nat, BDt m len.toInt p ∧ b.1.toInt = -1 - (p : Int)) := by
          intro hnb h2
          exact ih v1 v3 v4 v5 v6 v7 (0 : Int32) s b ⟨hL, hJ, ht, hto, hto3, htoE⟩ h0 h1 (Or.inl l0) (fun _ => bad hnb) (fun z => by omega) h2
        by_cases q23 : r23 = 0
        · have q23' : r23.toInt = 0 := by rw [q23]; exact l0
          rw [if_pos q23] at h
          exact goBad (fun z => by obtain ⟨z1, z2, -⟩ := z; omega) h
        · have q23' : r23.toInt ≠ 0 := fun z => q23 (eqI.mpr (by rw [z]; exact l0.symm))
          rw [if_neg q23, e_isEnd12 hL hI (by omega) (by omega), Option.bind_some] at h
          by_cases qe : (m.1 6 (hdT m v5.toNatClampNeg).toNatClampNeg = v4 ∨ m.1 7 (hdT m v5.toNatClampNeg).toNatClampNeg = v4)
          · have F92 : Fr [(92, 999)] s (sm_w1 s 92 (v5).toNatClampNeg (hdT m v5.toNatClampNeg)) := Fr.w Fr.refl rfl
            have hL2 : XL m (sm_w1 s 92 (v5).toNatClampNeg (hdT m v5.toNatClampNeg)) := hL.fr (W := []) Fr.refl F92 rfl
            have okk : okT m v5.toNatClampNeg := ⟨by omega, by omega, by rw [← b4]; exact qe⟩
            rw [if_pos qe, if_neg (show ¬ ((1 : Int32) = 0) by decide), if_pos (ix_in (show 0 ≤ v5.toInt ∧ v5.toInt < ((30 : Nat) : Int) by omega)), e_mins12 hL2 hI (by omega) (by omega), Option.bind_some, e_other12 hL2 hI (by omega) (by omega), Option.bind_some] at h
            have e22 : ((s.1 72 22) + (1 : Int32)).toInt = (s.1 72 22).toInt + 1 := a_addl L1 (by omega) (by omega)
            have e5 : (v5 + (1 : Int32)).toInt = v5.toInt + 1 := a_addl L1 (by omega) (by omega)
            have hs5 : (v5 + (1 : Int32)).toNatClampNeg = v5.toNatClampNeg + 1 := by
              have := a_tn (x := v5 + (1 : Int32)) (by omega)
              omega
            have hzh : zI (sm_w1 s 92 (v5).toNatClampNeg (hdT m v5.toNatClampNeg)) := zI.w92 hJ (show 0 ≤ (hdT m v5.toNatClampNeg).toInt ∧ (hdT m v5.toNatClampNeg).toInt ≤ 13 by omega) (Or.inl (by omega))
            have hJ2 : zI (sm_w1 (sm_w1 s 92 (v5).toNatClampNeg (hdT m v5.toNatClampNeg)) 72 22 ((s.1 72 22) + (1 : Int32))) := zI.w hzh rfl (show 0 ≤ ((s.1 72 22) + (1 : Int32)).toInt ∧ ((s.1 72 22) + (1 : Int32)).toInt ≤ 80 by omega)
            have F2 : Fr [(92, 999), (72, 22)] s (sm_w1 (sm_w1 s 92 (v5).toNatClampNeg (hdT m v5.toNatClampNeg)) 72 22 ((s.1 72 22) + (1 : Int32))) := Fr.w (Fr.w Fr.refl rfl) rfl
            have hL3 : XL m (sm_w1 (sm_w1 s 92 (v5).toNatClampNeg (hdT m v5.toNatClampNeg)) 72 22 ((s.1 72 22) + (1 : Int32))) := hL.fr (W := []) Fr.refl F2 rfl
            have q22 : (sm_w1 (sm_w1 s 92 (v5).toNatClampNeg (hdT m v5.toNatClampNeg)) 72 22 ((s.1 72 22) + (1 : Int32))).1 72 22 = (s.1 72 22) + (1 : Int32) := r_hit
            have q23b : (sm_w1 (sm_w1 s 92 (v5).toNatClampNeg (hdT m v5.toNatClampNeg)) 72 22 ((s.1 72 22) + (1 : Int32))).1 72 23 = s.1 72 23 := F2 72 23 rfl
            refine ih v1 v3 _ (v5 + (1 : Int32)) _ _ (1 : Int32) _ b ⟨hL3, hJ2, fun j hj => ?_, by rw [q23b]; exact hto, by rw [q23b]; exact hto3, by rw [q23b]; exact htoE⟩ (by rw [q22]; omega) (by rw [q22, q23b]; omega) (Or.inr l1) (fun z => by omega) (fun _ => ⟨by rw [q22]; omega, by omega, by rw [q22]; omega, by rw [hs5, b4]; rfl, by rw [hs5, b5, b4]; rfl, b6, fun k hk => ?_⟩) h
            · rw [F2 84 j rfl]; exact ht j hj
            · by_cases qk : k = v5.toNatClampNeg
              · subst qk; exact okk
              · exact b7 k (by omega)
          · rw [if_neg qe, if_pos rfl] at h
            exact goBad (fun z => qe (by rw [b4]; exact z.2.2)) h
theorem s_tour12 {x1 : Int32} {m s : sm_S} (hT : XT m s) (hL : XL m s) (hI : zI m) (hJ : zI s) {b : Int32 × sm_S} (h : fX12_tour x1 s = some b) : ((x1.toInt < 0 ∨ 1 < x1.toInt) ∧ b.1 = (-100 : Int32)) ∨ ((0 ≤ x1.toInt ∧ x1.toInt ≤ 1) ∧ ((GDt m (m.1 1 1).toInt ∧ b.1 = mnT m ((m.1 1 1).toInt.toNat - 1)) ∨ (∃ p : Nat, BDt m (m.1 1 1).toInt p ∧ b.1.toInt = -1 - (p : Int)))) := by
  have l0 := L0
  have l1 := L1
  have ln1 := Ln1
  have l30 := L30
  have ll0 := LL0
  have ll1 := LL1
  have c11 : 0 ≤ (m.1 1 1).toInt ∧ (m.1 1 1).toInt ≤ 80 := hI.1 1 1
  have c30 : 0 ≤ (m.1 3 0).toInt ∧ (m.1 3 0).toInt ≤ 10 := hI.1 3 0
  have cj3 : 0 ≤ (s.1 72 3).toInt ∧ (s.1 72 3).toInt ≤ 10 := hJ.1 72 3
  have e11 : (m.1 1 1).toInt = (s.1 72 21).toInt := congrArg Int32.toInt hT.1
  have e30 := hL.corner
  have ex1 : x1.toInt64.toInt = x1.toInt := Int32.toInt_toInt64 _
  have hfu := fuE
  have z0 : (0 : Int32).toNatClampNeg = 0 := by decide
  unfold fX12_tour fX12_begins at h
  rw [Option.bind_some] at h
  generalize hS1 : (sm_w1 (sm_w1 (sm_w1 (sm_w1 s 72 0 (0 : Int32)) 72 21 (0 : Int32)) 72 22 (0 : Int32)) 72 23 (if (30 : Int32) < ((sm_w1 s 72 0 (0 : Int32)).1 72 21) then (30 : Int32) else ((sm_w1 s 72 0 (0 : Int32)).1 72 21))) = S1 at h
  have elen : (sm_w1 s 72 0 (0 : Int32)).1 72 21 = m.1 1 1 := hT.1.symm
  rw [elen] at h hS1
  dsimp only at h
  have ci : ((30 : Int32).toInt < (m.1 1 1).toInt ∧ (if (30 : Int32) < (m.1 1 1) then (30 : Int32) else (m.1 1 1)).toInt = (30 : Int32).toInt) ∨ ((m.1 1 1).toInt ≤ (30 : Int32).toInt ∧ (if (30 : Int32) < (m.1 1 1) then (30 : Int32) else (m.1 1 1)).toInt = (m.1 1 1).toInt) := a_ilt
  have j0 := zI.w hJ (a := 72) (k := 0) (v := (0 : Int32)) rfl (show 0 ≤ (0 : Int32).toInt ∧ (0 : Int32).toInt ≤ 1 by omega)
  have j1 := zI.w j0 (a := 72) (k := 21) (v := (0 : Int32)) rfl (show 0 ≤ (0 : Int32).toInt ∧ (0 : Int32).toInt ≤ 80 by omega)
  have j2 := zI.w j1 (a := 72) (k := 22) (v := (0 : Int32)) rfl (show 0 ≤ (0 : Int32).toInt ∧ (0 : Int32).toInt ≤ 80 by omega)
  have j3 := zI.w j2 (a := 72) (k := 23) (v := (if (30 : Int32) < (m.1 1 1) then (30 : Int32) else (m.1 1 1))) rfl (show 0 ≤ (if (30 : Int32) < (m.1 1 1) then (30 : Int32) else (m.1 1 1)).toInt ∧ (if (30 : Int32) < (m.1 1 1) then (30 : Int32) else (m.1 1 1)).toInt ≤ 76 by omega)
  have F1 : Fr [(72, 0), (72, 21), (72, 22), (72, 23)] s S1 := by rw [← hS1]; exact Fr.w (Fr.w (Fr.w (Fr.w Fr.refl rfl) rfl) rfl) rfl
  rw [hS1] at j3
  have s22 : S1.1 72 22 = (0 : Int32) := by rw [← hS1]; rfl
  have s23 : S1.1 72 23 = (if (30 : Int32) < (m.1 1 1) then (30 : Int32) else (m.1 1 1)) := by rw [← hS1]; rfl
  obtain ⟨r4, e4, -, -, h4⟩ := zX12_in x1.toInt64 (0 : Int64) (1 : Int64) S1 (by omega) j3
  rw [e4, Option.bind_some] at h
  by_cases q4 : r4 = 0
  · have q4' : r4.toInt = 0 := by rw [q4]; exact l0
    rw [if_pos q4] at h
    obtain rfl := Option.some.inj h
    exact Or.inl ⟨by omega, rfl⟩
  · have q4' : r4.toInt ≠ 0 := fun z => q4 (eqI.mpr (by rw [z]; exact l0.symm))
    rw [if_neg q4] at h
    refine Or.inr ⟨by omega, ?_⟩
    have s3 : S1.1 72 3 = s.1 72 3 := F1 72 3 rfl
    rw [s3] at h
    have j4 := zI.w j3 (a := 72) (k := 24) (v := s.1 72 3) rfl (show 0 ≤ (s.1 72 3).toInt ∧ (s.1 72 3).toInt ≤ 10 by omega)
    generalize hS2 : sm_w1 S1 72 24 (s.1 72 3) = S2 at h j4
    have F2 : Fr [(72, 0), (72, 21), (72, 22), (72, 23), (72, 24)] s S2 := by rw [← hS2]; exact Fr.w (Fr.sub F1 rfl) rfl
    have t22 : S2.1 72 22 = (0 : Int32) := by rw [← hS2]; exact s22
    have t23 : S2.1 72 23 = (if (30 : Int32) < (m.1 1 1) then (30 : Int32) else (m.1 1 1)) := by rw [← hS2]; exact s23
    have t24 : S2.1 72 24 = s.1 72 3 := by rw [← hS2]; rfl
    obtain ⟨r6, e6, ⟨c1, c2, h6⟩, j6, F6⟩ := zX12_cornerBut_v (-1 : Int32) S2 (by omega) j4
    rw [e6, Option.bind_some] at h
    have t22' : (S2.1 72 22).toInt = 0 := by rw [t22]; exact l0
    have t22n : (S2.1 72 22).toNatClampNeg = 0 := by rw [t22]; exact z0
    have t23' : (S2.1 72 23).toInt = (if (30 : Int32) < (m.1 1 1) then (30 : Int32) else (m.1 1 1)).toInt := by rw [t23]
    have t24' : (S2.1 72 24).toInt = (m.1 3 0).toInt := by rw [t24]; exact e30.symm
    rw [t22n] at h6
    have u23 : r6.2.1 72 23 = S2.1 72 23 := F6 72 23 rfl
    have u23' : (r6.2.1 72 23).toInt = (S2.1 72 23).toInt := by rw [u23]
    have hL6 : XL m r6.2 := hL.fr (W := []) Fr.refl (Fr.trans F2 F6 rfl) rfl
    have hG6 : TG m r6.2 (m.1 1 1).toInt := by
      refine ⟨hL6, j6, fun j hj => ?_, by omega, by omega, by omega⟩
      rw [F6 84 j rfl, F2 84 j rfl]; exact hT.2 j hj
    have ecr : crT m 0 = (m.1 2 0) - (97 : Int32) := rfl
    have c20 : 0 ≤ (m.1 2 0).toInt ∧ (m.1 2 0).toInt ≤ 65535 := hI.1 2 0
    have ecr' : (crT m 0).toInt = (m.1 2 0).toInt - 97 := by rw [ecr]; exact a_subl L97 (by omega) (by omega)
    have h84 : 0 < (m.1 1 1).toInt → (S2.1 84 0).toInt = (m.1 2 0).toInt := by
      intro z
      rw [F2 84 0 rfl, ← hT.2 0 (by omega)]
    by_cases q6 : r6.1 < 0
    · have q6' := ltI.mp q6
      rw [if_pos q6] at h
      have hB : BDt m (m.1 1 1).toInt 0 := by
        refine Or.inl ⟨rfl, ?_⟩
        by_cases z : (m.1 1 1).toInt = 0
        · exact Or.inl z
        · refine Or.inr (fun hc => ?_)
          have h8 := h84 (by omega)
          unfold cOK at hc
          rcases h6 with h6 | h6 <;> omega
      have u22 : (r6.2.1 72 22).toInt = 0 := by rcases h6 with h6 | h6 <;> omega
      have u22n : (r6.2.1 72 22).toNatClampNeg = 0 := by
        have := a_tn (x := r6.2.1 72 22) (by omega)
        omega
      exact v_tour62 m hI (m.1 1 1) c11 sm_fu x1 r6.1 r6.1 (0 : Int32) (0 : Int32) (0 : Int32) (0 : Int32) r6.2 b hG6 (by omega) (by omega) (Or.inl l0) (fun _ => ⟨by rw [u22n]; exact hB, by omega⟩) (fun z => by omega) h
    · have q6' := Int.not_lt.mp (fun z => q6 (ltI.mpr z))
      rw [if_neg q6] at h
      have h8 : 0 < (m.1 1 1).toInt := by rcases h6 with h6 | h6 <;> omega
      have h88 := h84 h8
      have e6c : r6.1 = crT m 0 := eqI.mpr (by rcases h6 with h6 | h6 <;> omega)
      have e6i : r6.1.toInt = (crT m 0).toInt := by rw [e6c]
      exact v_tour62 m hI (m.1 1 1) c11 sm_fu x1 r6.1 r6.1 (0 : Int32) (0 : Int32) (0 : Int32) (1 : Int32) r6.2 b hG6 (by rcases h6 with h6 | h6 <;> omega) (by rcases h6 with h6 | h6 <;> omega) (Or.inr l1) (fun z => by omega) (fun _ => ⟨by rcases h6 with h6 | h6 <;> omega, by omega, by rcases h6 with h6 | h6 <;> omega, by rw [z0]; exact e6c, by rw [z0]; rfl, by unfold cOK; rcases h6 with h6 | h6 <;> omega, fun k hk => by omega⟩) h
theorem BDt.uni {m : sm_S} {len : Int} {p q : Nat} (h1 : BDt m len p) (h2 : BDt m len q) : p = q := by
  have key : ∀ p q : Nat, BDt m len p → BDt m len q → p < q → False := by
    intro p q h1 h2 hlt
    rcases h2 with ⟨q0, -⟩ | ⟨a1, a2, a3, a4, a5, a6⟩
    · omega
    · rcases h1 with ⟨p0, hp⟩ | ⟨b1, b2, b3, b4, b5, b6⟩
      · rcases hp with hp | hp
        · omega
        · exact hp a4
      · rcases b6 with b6 | b6
        · omega
        · exact b6 (a5 (p - 1) (by omega))
  rcases Nat.lt_trichotomy p q with h | h | h
  · exact absurd (key p q h1 h2 h) id
  · exact h
  · exact absurd (key q p h2 h1 h) id
theorem GDt.no {m : sm_S} {len : Int} {p : Nat} (h1 : GDt m len) (h2 : BDt m len p) : False := by
  obtain ⟨a1, a2, a3, a4⟩ := h1
  rcases h2 with ⟨p0, hp⟩ | ⟨b1, b2, b3, b4, b5, b6⟩
  · rcases hp with hp | hp
    · omega
    · exact hp a3
  · rcases b6 with b6 | b6
    · omega
    · exact b6 (a4 (p - 1) (by omega))
/-! the class's schedule -/
theorem v_lay (m0 : sm_S) : ∀ (n : Nat) (v3 : Int32) (m r : sm_S), Fr wX9_lay m0 m → 0 ≤ v3.toInt → (∀ k : Nat, (k : Int) < v3.toInt → m.1 59 k = hdT m0 k) → fX9_lay_24 n v3 m = some r → r.1 58 1 = m.1 58 1 ∧ r.1 58 2 = m.1 58 2 ∧ ∀ k : Nat, (k : Int) < (m.1 58 2).toInt → r.1 59 k = hdT m0 k := by
  intro n
  induction n with
  | zero => intro v3 m r F h0 hk h; cases h
  | succ n ih =>
    intro v3 m r F h0 hk h
    have et := a_tn h0
    unfold fX9_lay_24 at h
    by_cases g : (m.1 58 2) ≤ v3
    · have g' := leI.mp g
      rw [if_pos g] at h
      obtain rfl := Option.some.inj h
      exact ⟨rfl, rfl, fun k hk2 => hk k (by omega)⟩
    · rw [if_neg g] at h
      by_cases q1 : sm_ix (v3 + (1 : Int32)) 80
      · rw [if_pos q1] at h
        by_cases q2 : sm_ix v3 30
        · rw [if_pos q2] at h
          have hv : v3.toInt < 30 := by
            have := q2.2
            rw [← Int32.toNat_toInt] at this
            omega
          have e3 : (v3 + (1 : Int32)).toInt = v3.toInt + 1 := a_addl L1 (by omega) (by omega)
          have hs : (v3 + (1 : Int32)).toNatClampNeg = v3.toNatClampNeg + 1 := by
            have := a_tn (x := v3 + (1 : Int32)) (by omega)
            omega
          have res := ih (v3 + (1 : Int32)) _ r (Fr.w F rfl) (by omega) (fun k hk2 => ?_) h
          · exact res
          · by_cases q : k = v3.toNatClampNeg
            · subst q
              rw [r_hit, hs]
              unfold hdT
              rw [F 2 _ rfl]
            · rw [r_place q]; exact hk k (by omega)
        · rw [if_neg q2] at h; cases h
      · rw [if_neg q1] at h; cases h
theorem v_sched (m0 : sm_S) (hI0 : zI m0) (L : Int) (hok : ∀ k : Nat, (k : Int) < L → okT m0 k) : ∀ (n : Nat) (v2 : Int32) (m : sm_S) (r : Int32 × sm_S), (∀ x : Nat, x < 14 → ∀ j : Nat, m.1 x j = m0.1 x j ∨ x = 1) → (m.1 58 2).toInt = L → L ≤ 29 → (∀ k : Nat, (k : Int) < L → m.1 59 k = hdT m0 k) → 0 ≤ v2.toInt → v2.toInt ≤ L → m.1 60 v2.toNatClampNeg = crT m0 v2.toNatClampNeg → m.1 61 v2.toNatClampNeg = mnT m0 v2.toNatClampNeg → fX9_schedule_19 n v2 m = some r → r.1 = mnT m0 L.toNat := by
  intro n
  induction n with
  | zero => intro v2 m r hF hb hL hh h0 h1 hc hm h; cases h
  | succ n ih =>
    intro v2 m r hF hb hL hh h0 h1 hc hm h
    have et := a_tn h0
    have f : ∀ x : Nat, x < 14 → x ≠ 1 → ∀ j : Nat, m.1 x j = m0.1 x j := fun x hx hx1 j => (hF x hx j).resolve_right hx1
    have c31 : 0 ≤ (m0.1 3 1).toInt ∧ (m0.1 3 1).toInt ≤ 14 := hI0.1 3 1
    unfold fX9_schedule_19 at h
    by_cases g : (m.1 58 2) ≤ v2
    · have g' := leI.mp g
      have ev : m.1 58 2 = v2 := eqI.mpr (by omega)
      rw [if_pos g, ev, if_pos (ix_in (show 0 ≤ v2.toInt ∧ v2.toInt < ((30 : Nat) : Int) by omega))] at h
      obtain rfl := Option.some.inj h
      show m.1 61 v2.toNatClampNeg = _
      rw [hm, show v2.toNatClampNeg = L.toNat by omega]
    · have g' := Int.not_le.mp (fun z => g (leI.mpr z))
      have hx : 0 ≤ v2.toInt ∧ v2.toInt < ((30 : Nat) : Int) := by omega
      have e2 : (v2 + (1 : Int32)).toInt = v2.toInt + 1 := a_addl L1 (by omega) (by omega)
      have hs : (v2 + (1 : Int32)).toNatClampNeg = v2.toNatClampNeg + 1 := by
        have := a_tn (x := v2 + (1 : Int32)) (by omega)
        omega
      have hx1 : 0 ≤ (v2 + (1 : Int32)).toInt ∧ (v2 + (1 : Int32)).toInt < ((30 : Nat) : Int) := by omega
      obtain ⟨o1, o2, o3⟩ := hok v2.toNatClampNeg (by omega)
      have hd := hh v2.toNatClampNeg (by omega)
      have hh14 : 0 ≤ (hdT m0 v2.toNatClampNeg).toInt ∧ (hdT m0 v2.toNatClampNeg).toInt < ((14 : Nat) : Int) := by omega
      rw [if_neg g, if_pos (ix_in hx), if_pos (ix_in hx), if_pos (ix_in hx), hd, hc, e_mins11 hh14, Option.bind_some, if_pos (ix_in hx1), if_pos (ix_in hx), e_other11 hh14, Option.bind_some, if_pos (ix_in hx1)] at h
      have em : mnF m (hdT m0 v2.toNatClampNeg) (crT m0 v2.toNatClampNeg) = mnF m0 (hdT m0 v2.toNatClampNeg) (crT m0 v2.toNatClampNeg) := by
        unfold mnF
        rw [f 6 (by decide) (by decide), f 8 (by decide) (by decide), f 12 (by decide) (by decide)]
      have eo : otE (sm_w1 m 61 (v2 + (1 : Int32)).toNatClampNeg ((m.1 61 (v2).toNatClampNeg) + mnF m (hdT m0 v2.toNatClampNeg) (crT m0 v2.toNatClampNeg))) (hdT m0 v2.toNatClampNeg) (crT m0 v2.toNatClampNeg) = otE m0 (hdT m0 v2.toNatClampNeg) (crT m0 v2.toNatClampNeg) := by
        unfold otE
        rw [r_cell (c := 6) (by decide), r_cell (c := 7) (by decide), f 6 (by decide) (by decide), f 7 (by decide) (by decide)]
      rw [eo, em, hm] at h
      refine ih (v2 + (1 : Int32)) _ r (fun x hx14 j => ?_) ?_ hL (fun k hk => ?_) (by omega) (by omega) ?_ ?_ h
      · rw [r_cell (by omega), r_cell (by omega)]; exact hF x hx14 j
      · show ((sm_w1 (sm_w1 m 61 _ _) 60 _ _).1 58 2).toInt = L
        rw [r_cell (by decide), r_cell (by decide)]; exact hb
      · rw [r_cell (by decide), r_cell (by decide)]; exact hh k hk
      · rw [hs, r_hit]; rfl
      · rw [hs, r_cell (by decide), r_hit]; rfl
theorem v_laid {m : sm_S} {len : Int32} (hI : zI m) (hG : GDt m len.toInt) {m4 : sm_S} {r : Int32 × sm_S} (h4 : fX9_lay len m = some m4) (F4 : Fr wX9_lay m m4) (h6 : fX9_schedule m4 = some r) : r.1 = mnT m (len.toInt.toNat - 1) := by
  obtain ⟨g1, g2, g3, g4⟩ := hG
  have l0 := L0
  have z0 : (0 : Int32).toNatClampNeg = 0 := by decide
  have e1 : (len - (1 : Int32)).toInt = len.toInt - 1 := a_subl L1 (by omega) (by omega)
  unfold fX9_lay at h4
  obtain ⟨a1, a2, a3⟩ := v_lay m sm_fu (0 : Int32) _ m4 (Fr.w (Fr.w (Fr.w Fr.refl rfl) rfl) rfl) (by omega) (fun k hk => by omega) h4
  have b1 : m4.1 58 1 = (m.1 2 0) - (97 : Int32) := a1
  have b2 : m4.1 58 2 = len - (1 : Int32) := a2
  unfold fX9_schedule at h6
  have key := v_sched m hI (len.toInt - 1) g4 sm_fu (0 : Int32) _ r (fun x hx j => ?_) ?_ (by omega) (fun k hk => ?_) (by omega) (by omega) ?_ ?_ h6
  · rw [key, show (len.toInt - 1).toNat = len.toInt.toNat - 1 by omega]
  · refine Or.inl ?_
    rw [r_cell (by omega), r_cell (by omega)]
    refine F4 x j ?_
    have hxs : x = 0 ∨ x = 1 ∨ x = 2 ∨ x = 3 ∨ x = 4 ∨ x = 5 ∨ x = 6 ∨ x = 7 ∨ x = 8 ∨ x = 9 ∨ x = 10 ∨ x = 11 ∨ x = 12 ∨ x = 13 := by omega
    rcases hxs with rfl | rfl | rfl | rfl | rfl | rfl | rfl | rfl | rfl | rfl | rfl | rfl | rfl | rfl <;> rfl
  · show ((sm_w1 (sm_w1 m4 60 0 (m4.1 58 1)) 61 0 (0 : Int32)).1 58 2).toInt = len.toInt - 1
    rw [r_cell (by decide), r_cell (by decide), b2]; exact e1
  · rw [r_cell (by decide), r_cell (by decide)]
    refine a3 k ?_
    show (k : Int) < (len - (1 : Int32)).toInt
    omega
  · rw [z0, r_cell (by decide), r_hit, b1]; rfl
  · rw [z0, r_hit]; rfl
theorem v_lay_i1 (m0 : sm_S) : ∀ (n : Nat) (v3 : Int32) (m r : sm_S), Fr wX9_lay_i1 m0 m → 0 ≤ v3.toInt → (∀ k : Nat, (k : Int) < v3.toInt → m.1 63 k = hdT m0 k) → fX9_lay_i1_24 n v3 m = some r → r.1 62 1 = m.1 62 1 ∧ r.1 62 2 = m.1 62 2 ∧ ∀ k : Nat, (k : Int) < (m.1 62 2).toInt → r.1 63 k = hdT m0 k := by
  intro n
  induction n with
  | zero => intro v3 m r F h0 hk h; cases h
  | succ n ih =>
    intro v3 m r F h0 hk h
    have et := a_tn h0
    unfold fX9_lay_i1_24 at h
    by_cases g : (m.1 62 2) ≤ v3
    · have g' := leI.mp g
      rw [if_pos g] at h
      obtain rfl := Option.some.inj h
      exact ⟨rfl, rfl, fun k hk2 => hk k (by omega)⟩
    · rw [if_neg g] at h
      by_cases q1 : sm_ix (v3 + (1 : Int32)) 80
      · rw [if_pos q1] at h
        by_cases q2 : sm_ix v3 30
        · rw [if_pos q2] at h
          have hv : v3.toInt < 30 := by
            have := q2.2
            rw [← Int32.toNat_toInt] at this
            omega
          have e3 : (v3 + (1 : Int32)).toInt = v3.toInt + 1 := a_addl L1 (by omega) (by omega)
          have hs : (v3 + (1 : Int32)).toNatClampNeg = v3.toNatClampNeg + 1 := by
            have := a_tn (x := v3 + (1 : Int32)) (by omega)
            omega
          have res := ih (v3 + (1 : Int32)) _ r (Fr.w F rfl) (by omega) (fun k hk2 => ?_) h
          · exact res
          · by_cases q : k = v3.toNatClampNeg
            · subst q
              rw [r_hit, hs]
              unfold hdT
              rw [F 2 _ rfl]
            · rw [r_place q]; exact hk k (by omega)
        · rw [if_neg q2] at h; cases h
      · rw [if_neg q1] at h; cases h
theorem v_sched_i1 (m0 : sm_S) (hI0 : zI m0) (L : Int) (hok : ∀ k : Nat, (k : Int) < L → okT m0 k) : ∀ (n : Nat) (v2 : Int32) (m : sm_S) (r : Int32 × sm_S), (∀ x : Nat, x < 14 → ∀ j : Nat, m.1 x j = m0.1 x j ∨ x = 1) → (m.1 62 2).toInt = L → L ≤ 29 → (∀ k : Nat, (k : Int) < L → m.1 63 k = hdT m0 k) → 0 ≤ v2.toInt → v2.toInt ≤ L → m.1 64 v2.toNatClampNeg = crT m0 v2.toNatClampNeg → m.1 65 v2.toNatClampNeg = mnT m0 v2.toNatClampNeg → fX9_schedule_i1_19 n v2 m = some r → r.1 = mnT m0 L.toNat := by
  intro n
  induction n with
  | zero => intro v2 m r hF hb hL hh h0 h1 hc hm h; cases h
  | succ n ih =>
    intro v2 m r hF hb hL hh h0 h1 hc hm h
    have et := a_tn h0
    have f : ∀ x : Nat, x < 14 → x ≠ 1 → ∀ j : Nat, m.1 x j = m0.1 x j := fun x hx hx1 j => (hF x hx j).resolve_right hx1
    have c31 : 0 ≤ (m0.1 3 1).toInt ∧ (m0.1 3 1).toInt ≤ 14 := hI0.1 3 1
    unfold fX9_schedule_i1_19 at h
    by_cases g : (m.1 62 2) ≤ v2
    · have g' := leI.mp g
      have ev : m.1 62 2 = v2 := eqI.mpr (by omega)
      rw [if_pos g, ev, if_pos (ix_in (show 0 ≤ v2.toInt ∧ v2.toInt < ((30 : Nat) : Int) by omega))] at h
      obtain rfl := Option.some.inj h
      show m.1 65 v2.toNatClampNeg = _
      rw [hm, show v2.toNatClampNeg = L.toNat by omega]
    · have g' := Int.not_le.mp (fun z => g (leI.mpr z))
      have hx : 0 ≤ v2.toInt ∧ v2.toInt < ((30 : Nat) : Int) := by omega
      have e2 : (v2 + (1 : Int32)).toInt = v2.toInt + 1 := a_addl L1 (by omega) (by omega)
      have hs : (v2 + (1 : Int32)).toNatClampNeg = v2.toNatClampNeg + 1 := by
        have := a_tn (x := v2 + (1 : Int32)) (by omega)
        omega
      have hx1 : 0 ≤ (v2 + (1 : Int32)).toInt ∧ (v2 + (1 : Int32)).toInt < ((30 : Nat) : Int) := by omega
      obtain ⟨o1, o2, o3⟩ := hok v2.toNatClampNeg (by omega)
      have hd := hh v2.toNatClampNeg (by omega)
      have hh14 : 0 ≤ (hdT m0 v2.toNatClampNeg).toInt ∧ (hdT m0 v2.toNatClampNeg).toInt < ((14 : Nat) : Int) := by omega
      rw [if_neg g, if_pos (ix_in hx), if_pos (ix_in hx), if_pos (ix_in hx), hd, hc, e_mins11 hh14, Option.bind_some, if_pos (ix_in hx1), if_pos (ix_in hx), e_other11 hh14, Option.bind_some, if_pos (ix_in hx1)] at h
      have em : mnF m (hdT m0 v2.toNatClampNeg) (crT m0 v2.toNatClampNeg) = mnF m0 (hdT m0 v2.toNatClampNeg) (crT m0 v2.toNatClampNeg) := by
        unfold mnF
        rw [f 6 (by decide) (by decide), f 8 (by decide) (by decide), f 12 (by decide) (by decide)]
      have eo : otE (sm_w1 m 65 (v2 + (1 : Int32)).toNatClampNeg ((m.1 65 (v2).toNatClampNeg) + mnF m (hdT m0 v2.toNatClampNeg) (crT m0 v2.toNatClampNeg))) (hdT m0 v2.toNatClampNeg) (crT m0 v2.toNatClampNeg) = otE m0 (hdT m0 v2.toNatClampNeg) (crT m0 v2.toNatClampNeg) := by
        unfold otE
        rw [r_cell (c := 6) (by decide), r_cell (c := 7) (by decide), f 6 (by decide) (by decide), f 7 (by decide) (by decide)]
      rw [eo, em, hm] at h
      refine ih (v2 + (1 : Int32)) _ r (fun x hx14 j => ?_) ?_ hL (fun k hk => ?_) (by omega) (by omega) ?_ ?_ h
      · rw [r_cell (by omega), r_cell (by omega)]; exact hF x hx14 j
      · show ((sm_w1 (sm_w1 m 65 _ _) 64 _ _).1 62 2).toInt = L
        rw [r_cell (by decide), r_cell (by decide)]; exact hb
      · rw [r_cell (by decide), r_cell (by decide)]; exact hh k hk
      · rw [hs, r_hit]; rfl
      · rw [hs, r_cell (by decide), r_hit]; rfl
theorem v_laid_i1 {m : sm_S} {len : Int32} (hI : zI m) (hG : GDt m len.toInt) {m4 : sm_S} {r : Int32 × sm_S} (h4 : fX9_lay_i1 len m = some m4) (F4 : Fr wX9_lay_i1 m m4) (h6 : fX9_schedule_i1 m4 = some r) : r.1 = mnT m (len.toInt.toNat - 1) := by
  obtain ⟨g1, g2, g3, g4⟩ := hG
  have l0 := L0
  have z0 : (0 : Int32).toNatClampNeg = 0 := by decide
  have e1 : (len - (1 : Int32)).toInt = len.toInt - 1 := a_subl L1 (by omega) (by omega)
  unfold fX9_lay_i1 at h4
  obtain ⟨a1, a2, a3⟩ := v_lay_i1 m sm_fu (0 : Int32) _ m4 (Fr.w (Fr.w (Fr.w Fr.refl rfl) rfl) rfl) (by omega) (fun k hk => by omega) h4
  have b1 : m4.1 62 1 = (m.1 2 0) - (97 : Int32) := a1
  have b2 : m4.1 62 2 = len - (1 : Int32) := a2
  unfold fX9_schedule_i1 at h6
  have key := v_sched_i1 m hI (len.toInt - 1) g4 sm_fu (0 : Int32) _ r (fun x hx j => ?_) ?_ (by omega) (fun k hk => ?_) (by omega) (by omega) ?_ ?_ h6
  · rw [key, show (len.toInt - 1).toNat = len.toInt.toNat - 1 by omega]
  · refine Or.inl ?_
    rw [r_cell (by omega), r_cell (by omega)]
    refine F4 x j ?_
    have hxs : x = 0 ∨ x = 1 ∨ x = 2 ∨ x = 3 ∨ x = 4 ∨ x = 5 ∨ x = 6 ∨ x = 7 ∨ x = 8 ∨ x = 9 ∨ x = 10 ∨ x = 11 ∨ x = 12 ∨ x = 13 := by omega
    rcases hxs with rfl | rfl | rfl | rfl | rfl | rfl | rfl | rfl | rfl | rfl | rfl | rfl | rfl | rfl <;> rfl
  · show ((sm_w1 (sm_w1 m4 64 0 (m4.1 62 1)) 65 0 (0 : Int32)).1 62 2).toInt = len.toInt - 1
    rw [r_cell (by decide), r_cell (by decide), b2]; exact e1
  · rw [r_cell (by decide), r_cell (by decide)]
    refine a3 k ?_
    show (k : Int) < (len - (1 : Int32)).toInt
    omega
  · rw [z0, r_cell (by decide), r_hit, b1]; rfl
  · rw [z0, r_hit]; rfl
theorem v_tail {o : Option sm_S} {P : sm_S → Prop} (h : Sf P o) {γ : Type} {k : sm_S → Option γ} {b : γ} (e : o.bind k = some b) : ∃ s, o = some s ∧ P s ∧ k s = some b := by
  obtain ⟨s, rfl, hs⟩ := h
  exact ⟨s, rfl, hs, e⟩
theorem bd_some {α γ : Type} {o : Option α} {k : α → Option γ} {b : γ} (e : o.bind k = some b) : ∃ s, o = some s ∧ k s = some b := by
  cases o with
  | none => cases e
  | some s => exact ⟨s, rfl, e⟩
theorem tq_tour {x1 : Int32} {m s : sm_S} (hR : RX m s) (hI : zI m) (hJ : zI s) (_ : zC s) : TR (fun a b => a.1 = b.1) (fX11_tour x1 m) (fX12_tour x1 s) := by
  have l0 := L0
  have l1 := L1
  have l2 := L2
  have ln1 := Ln1
  have c11 : 0 ≤ (m.1 1 1).toInt ∧ (m.1 1 1).toInt ≤ 80 := hI.1 1 1
  obtain ⟨a, ea, -, -⟩ := zX11_tour x1 m hI
  obtain ⟨b, eb, -, -⟩ := zX12_tour x1 s hJ
  refine ⟨a, b, ea, eb, ?_⟩
  have k12 := s_tour12 hR.1 hR.2.1 hI hJ eb
  have i1 : zI (sm_w1 m 1 1 (0 : Int32)) := zI.w hI rfl (show 0 ≤ (0 : Int32).toInt ∧ (0 : Int32).toInt ≤ 80 by omega)
  have eT : ∀ k, hdT (sm_w1 m 1 1 (0 : Int32)) k = hdT m k := fun _ => rfl
  have eC : ∀ k, crT (sm_w1 m 1 1 (0 : Int32)) k = crT m k := by
    intro k
    induction k with
    | zero => rfl
    | succ k ih => show otE (sm_w1 m 1 1 (0 : Int32)) _ (crT (sm_w1 m 1 1 (0 : Int32)) k) = otE m _ (crT m k); rw [ih]; rfl
  have eM : ∀ k, mnT (sm_w1 m 1 1 (0 : Int32)) k = mnT m k := by
    intro k
    induction k with
    | zero => rfl
    | succ k ih =>
      show mnT (sm_w1 m 1 1 (0 : Int32)) k + mnF (sm_w1 m 1 1 (0 : Int32)) (hdT m k) (crT (sm_w1 m 1 1 (0 : Int32)) k) = mnT m k + mnF m (hdT m k) (crT m k)
      rw [ih, eC]; rfl
  have eO : ∀ k, okT (sm_w1 m 1 1 (0 : Int32)) k ↔ okT m k := by
    intro k
    unfold okT
    rw [eC]
    exact Iff.rfl
  have eCO : cOK (sm_w1 m 1 1 (0 : Int32)) ↔ cOK m := Iff.rfl
  have eG : GDt (sm_w1 m 1 1 (0 : Int32)) (m.1 1 1).toInt → GDt m (m.1 1 1).toInt := fun ⟨z1, z2, z3, z4⟩ => ⟨z1, z2, z3, fun k hk => (eO k).mp (z4 k hk)⟩
  have eB : ∀ p, BDt (sm_w1 m 1 1 (0 : Int32)) (m.1 1 1).toInt p → BDt m (m.1 1 1).toInt p := by
    intro p h
    rcases h with h | ⟨z1, z2, z3, z4, z5, z6⟩
    · exact Or.inl h
    · exact Or.inr ⟨z1, z2, z3, z4, fun k hk => (eO k).mp (z5 k hk), z6.imp id (fun z y => z ((eO _).mpr y))⟩
  unfold fX11_tour at ea
  by_cases g1 : x1 < 0
  · have g1' := ltI.mp g1
    rw [if_pos g1] at ea
    obtain rfl := Option.some.inj ea
    rcases k12 with ⟨-, k⟩ | ⟨k, -⟩
    · exact k.symm
    · omega
  · have g1' := Int.not_lt.mp (fun z => g1 (ltI.mpr z))
    rw [if_neg g1] at ea
    by_cases g2 : x1 < (2 : Int32)
    · have g2' := ltI.mp g2
      rw [if_pos g2] at ea
      obtain ⟨r2, e2, h2⟩ := s_firstBad (m := sm_w1 m 1 1 (0 : Int32)) (len := m.1 1 1) i1 c11
      obtain ⟨r2', e2', -, htF⟩ := zX9_firstBad (m.1 1 1) (sm_w1 m 1 1 (0 : Int32)) c11 i1
      obtain rfl := Option.some.inj (e2.symm.trans e2')
      rw [e2, Option.bind_some] at ea
      rcases k12 with ⟨k, -⟩ | ⟨-, k⟩
      · omega
      · by_cases g3 : r2 < 0
        · have g3' := ltI.mp g3
          rw [if_pos g3] at ea
          have hGD : GDt (sm_w1 m 1 1 (0 : Int32)) (m.1 1 1).toInt := by
            rcases h2 with h2 | h2
            · exact h2.2
            · omega
          have hans : a.1 = mnT (sm_w1 m 1 1 (0 : Int32)) ((m.1 1 1).toInt.toNat - 1) := by
            by_cases g4 : x1 = (0 : Int32)
            · rw [if_pos g4] at ea
              obtain ⟨m4, e4, ⟨-, i4, F4⟩, ea⟩ := v_tail (zX9_lay (m.1 1 1) _ (htF (by omega)) i1) ea
              obtain ⟨r6, e6, ea⟩ := bd_some ea
              have := v_laid i1 hGD e4 F4 e6
              split at ea
              · obtain ⟨m9, -, ea⟩ := bd_some ea
                obtain ⟨r11, -, ea⟩ := bd_some ea
                obtain ⟨m13, -, ea⟩ := bd_some ea
                obtain rfl := Option.some.inj ea
                exact this
              · cases ea
            · rw [if_neg g4] at ea
              split at ea
              · obtain ⟨m4, e4, ⟨-, i4, F4⟩, ea⟩ := v_tail (zX9_lay_i1 (m.1 1 1) _ (htF (by omega)) i1) ea
                obtain ⟨r6, e6, ea⟩ := bd_some ea
                have := v_laid_i1 i1 hGD e4 F4 e6
                split at ea
                · obtain ⟨m9, -, ea⟩ := bd_some ea
                  obtain ⟨r11, -, ea⟩ := bd_some ea
                  obtain ⟨m13, -, ea⟩ := bd_some ea
                  obtain rfl := Option.some.inj ea
                  exact this
                · cases ea
              · cases ea
          rcases k with ⟨-, k⟩ | ⟨p, k, -⟩
          · show a.1 = b.1
            rw [hans, eM, k]
          · exact absurd ((eG hGD).no k) id
        · have g3' := Int.not_lt.mp (fun z => g3 (ltI.mpr z))
          rw [if_neg g3] at ea
          obtain rfl := Option.some.inj ea
          rcases h2 with h2 | ⟨h2a, h2b⟩
          · omega
          · rcases k with ⟨k, -⟩ | ⟨p, k, k2⟩
            · exact absurd (k.no (eB _ h2b)) id
            · have ep := (eB _ h2b).uni k
              have et := a_tn h2a
              have hb80 : r2.toInt ≤ 80 := by
                rcases k with ⟨q, -⟩ | ⟨-, -, q, -⟩ <;> omega
              exact eqI.mpr ((neg1 (x := r2) (by omega)).trans (by rw [k2]; omega))
    · have g2' := Int.not_lt.mp (fun z => g2 (ltI.mpr z))
      rw [if_neg g2] at ea
      obtain rfl := Option.some.inj ea
      rcases k12 with ⟨-, k⟩ | ⟨k, -⟩
      · exact k.symm
      · omega
