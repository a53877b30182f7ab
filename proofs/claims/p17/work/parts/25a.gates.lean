/-! GATES: the reference's order of gates is found at every step -/
def gdel (X h : Int32) : Int32 := X &&& (((1 : Int32) <<< (h &&& 31)) ^^^ (-1 : Int32))
def gL (m : sm_S) (X c : Int32) : Int := (m.1 98 (((10 : Int32) * X) + c).toNatClampNeg).toInt
def gA (m : sm_S) (X c h : Int32) : Int := (m.1 99 (((10 : Int32) * c) + (m.1 76 h.toNatClampNeg)).toNatClampNeg).toInt + (m.1 78 h.toNatClampNeg).toInt + gL m (gdel X h) (m.1 77 h.toNatClampNeg)
def gB (m : sm_S) (X c h : Int32) : Int := (m.1 99 (((10 : Int32) * c) + (m.1 77 h.toNatClampNeg)).toNatClampNeg).toInt + ((m.1 78 h.toNatClampNeg).toInt + (m.1 82 h.toNatClampNeg).toInt) + gL m (gdel X h) (m.1 76 h.toNatClampNeg)
def gG (m : sm_S) (X c h : Int32) : Int := min (min 1000000 (gA m X c h)) (min 1000000 (gB m X c h))
def gH (m : sm_S) (h : Int32) : Prop := 0 ≤ h.toInt ∧ h.toInt < (m.1 72 6).toInt
def gC (m : sm_S) (c : Int32) : Prop := 0 ≤ c.toInt ∧ c.toInt < (m.1 72 3).toInt
theorem g_ends {m : sm_S} {h : Int32} (hI : zI m) (hC : zC m) (hh : gH m h) : gC m (m.1 76 h.toNatClampNeg) ∧ gC m (m.1 77 h.toNatClampNeg) ∧ (m.1 76 h.toNatClampNeg).toInt ≠ (m.1 77 h.toNatClampNeg).toInt ∧ 1 ≤ (m.1 78 h.toNatClampNeg).toInt ∧ (m.1 78 h.toNatClampNeg).toInt ≤ 20 ∧ 0 ≤ (m.1 82 h.toNatClampNeg).toInt ∧ (m.1 82 h.toNatClampNeg).toInt ≤ 9 := by
  have e := a_tn hh.1
  have hle := zI.le hI
  have h2 := hh.2
  have q := zI.pfj hI h.toNatClampNeg (by omega)
  have q2 := hC.1 h.toNatClampNeg (by omega)
  have b78 : (-1 : Int) ≤ (m.1 78 h.toNatClampNeg).toInt ∧ (m.1 78 h.toNatClampNeg).toInt ≤ 20 := hI.1 78 _
  have b82 : (-1 : Int) ≤ (m.1 82 h.toNatClampNeg).toInt ∧ (m.1 82 h.toNatClampNeg).toInt ≤ 9 := hI.1 82 _
  exact ⟨⟨q.1, q2.1⟩, ⟨q.2.1, q2.2.1⟩, q2.2.2, q.2.2.1, b78.2, q.2.2.2, b82.2⟩
theorem g_idx {X c : Int32} (h0 : 0 ≤ X.toInt) (h1 : X.toInt ≤ 16383) (c0 : 0 ≤ c.toInt) (c1 : c.toInt ≤ 9) : (((10 : Int32) * X) + c).toInt = 10 * X.toInt + c.toInt := by
  have e : ((10 : Int32) * X).toInt = 10 * X.toInt := a_mul L10 rfl (by omega) (by omega)
  rw [a_add (by omega) (by omega), e]
theorem g_min {s : Int32} {t : Int} (h : s.toInt = t) : (if s < (1000000 : Int32) then s else (1000000 : Int32)).toInt = min 1000000 t := by
  have l := L1000000
  have q := a_ilt (x := s) (y := (1000000 : Int32)) (a := s) (b := (1000000 : Int32))
  omega
theorem zgy {m : sm_S} {X c h s e : Int32} {mf : Int} (hI : zI m) (hX : 0 ≤ X.toInt ∧ X.toInt ≤ 16383) (hc : 0 ≤ c.toInt ∧ c.toInt ≤ 9) (hh : gH m h) (hs : 0 ≤ s.toInt ∧ s.toInt ≤ 9) (he0 : 0 ≤ e.toInt ∧ e.toInt ≤ 9) (hm : Sf (fun r => r.toInt = mf) (fX12_minutesFrom h s m)) (hmf : 0 ≤ mf ∧ mf ≤ 29) (he : fX12_endOf h s m = some e) : Sf (fun r => r.toInt = min 1000000 ((m.1 99 (((10 : Int32) * c) + s).toNatClampNeg).toInt + mf + gL m (gdel X h) e)) (fX12_gateBy X c h s m) := by
  have i1 := g_idx (X := c) (c := s) hc.1 (by omega) hs.1 hs.2
  have hd := a_andl (x := X) (y := ((1 : Int32) <<< (h &&& 31)) ^^^ (-1 : Int32)) hX.1
  have i2 := g_idx (X := X &&& (((1 : Int32) <<< (h &&& 31)) ^^^ (-1 : Int32))) (c := e) hd.1 (by omega) he0.1 he0.2
  unfold fX12_gateBy
  refine s_ix (by omega) ?_
  refine s_bd hm (fun r hr => ?_)
  rw [he, Option.bind_some]
  refine s_ix (by omega) (s_ret ?_)
  have b99 : 0 ≤ (m.1 99 (((10 : Int32) * c) + s).toNatClampNeg).toInt ∧ (m.1 99 (((10 : Int32) * c) + s).toNatClampNeg).toInt ≤ 1000000 := hI.1 99 _
  have b98 : 0 ≤ (m.1 98 (((10 : Int32) * (X &&& (((1 : Int32) <<< (h &&& 31)) ^^^ (-1 : Int32)))) + e).toNatClampNeg).toInt ∧ (m.1 98 (((10 : Int32) * (X &&& (((1 : Int32) <<< (h &&& 31)) ^^^ (-1 : Int32)))) + e).toNatClampNeg).toInt ≤ 1000000 := hI.1 98 _
  refine g_min ?_
  have s1 : ((m.1 99 (((10 : Int32) * c) + s).toNatClampNeg) + r).toInt = (m.1 99 (((10 : Int32) * c) + s).toNatClampNeg).toInt + r.toInt := a_add (by omega) (by omega)
  rw [a_add (by omega) (by omega), s1, hr]
  rfl
theorem zgG {m : sm_S} {X c h : Int32} (hI : zI m) (hC : zC m) (hX : 0 ≤ X.toInt ∧ X.toInt ≤ 16383) (hc : gC m c) (hh : gH m h) : Sf (fun r => r.toInt = gG m X c h) (fX12_gateBest X c h m) := by
  have cc : 0 ≤ (m.1 72 3).toInt ∧ (m.1 72 3).toInt ≤ 10 := hI.1 72 3
  have ch : 0 ≤ (m.1 72 6).toInt ∧ (m.1 72 6).toInt ≤ 14 := hI.1 72 6
  obtain ⟨g1, g2, g3, g4, g5, g6, g7⟩ := g_ends hI hC hh
  have hh2 := hh
  unfold gH at hh2
  unfold gC at hc g1 g2
  have x14 : 0 ≤ h.toInt ∧ h.toInt < (14 : Int) := by omega
  have e1 : fX12_endOf h (m.1 76 h.toNatClampNeg) m = some (m.1 77 h.toNatClampNeg) := by
    obtain ⟨r, e, hr⟩ : Sf (fun r => r = m.1 77 h.toNatClampNeg) (fX12_endOf h (m.1 76 h.toNatClampNeg) m) := by
      unfold fX12_endOf
      refine s_ix x14 (s_eq (fun _ => s_ix x14 (s_ret rfl)) (fun q => absurd rfl q))
    rw [e, hr]
  have e2 : fX12_endOf h (m.1 77 h.toNatClampNeg) m = some (m.1 76 h.toNatClampNeg) := by
    obtain ⟨r, e, hr⟩ : Sf (fun r => r = m.1 76 h.toNatClampNeg) (fX12_endOf h (m.1 77 h.toNatClampNeg) m) := by
      unfold fX12_endOf
      refine s_ix x14 (s_eq (fun q => absurd q g3) (fun _ => s_ix x14 (s_ret rfl)))
    rw [e, hr]
  have m1 : Sf (fun r => r.toInt = (m.1 78 h.toNatClampNeg).toInt) (fX12_minutesFrom h (m.1 76 h.toNatClampNeg) m) := s_mono (zX12_minutesFrom h (m.1 76 h.toNatClampNeg) m (by omega) hI) (fun r hr => by omega)
  have m2 : Sf (fun r => r.toInt = (m.1 78 h.toNatClampNeg).toInt + (m.1 82 h.toNatClampNeg).toInt) (fX12_minutesFrom h (m.1 77 h.toNatClampNeg) m) := s_mono (zX12_minutesFrom h (m.1 77 h.toNatClampNeg) m (by omega) hI) (fun r hr => by omega)
  unfold fX12_gateBest
  refine s_ix x14 (s_bd (zgy hI hX (by omega) hh (by omega) (by omega) m1 (by omega) e1) (fun r3 h3 => ?_))
  refine s_ix x14 (s_bd (zgy hI hX (by omega) hh (by omega) (by omega) m2 (by omega) e2) (fun r6 h6 => s_ret ?_))
  have q := a_ilt (x := r6) (y := r3) (a := r6) (b := r3)
  show _ = min (min 1000000 (gA m X c h)) (min 1000000 (gB m X c h))
  have h3' : r3.toInt = min 1000000 (gA m X c h) := h3
  have h6' : r6.toInt = min 1000000 (gB m X c h) := h6
  omega
/-- c is a corner from which, at its cost, gate h comes next on a best way -/
def gow (m : sm_S) (X h : Int32) (due : Int) (c : Int32) : Prop := gC m c ∧ (m.1 100 c.toNatClampNeg).toInt < 1000000 ∧ (m.1 100 c.toNatClampNeg).toInt + gG m X c h = due
theorem zow_6 : ∀ (n : Nat) (v1 v2 v3 v4 v5 : Int32) (m : sm_S), (0 ≤ v1.toInt ∧ v1.toInt ≤ 16383 ∧ 0 ≤ v4.toInt ∧ v4.toInt ≤ 1 ∧ 0 ≤ v5.toInt ∧ v5.toInt ≤ 10 ∧ 10 - v5.toInt < (n : Int)) → gH m v2 → zI m → zC m → (v4.toInt = 0 → ∀ c : Int32, c.toInt < v5.toInt → ¬ gow m v1 v2 v3.toInt c) → (v4.toInt = 1 → ∃ c, gow m v1 v2 v3.toInt c) → Sf (fun r => (r.toInt = 0 → ∀ c, ¬ gow m v1 v2 v3.toInt c) ∧ (r.toInt ≠ 0 → ∃ c, gow m v1 v2 v3.toInt c)) (fX12_isOnWay_6 n v1 v2 v3 v4 v5 m) := by
  intro n
  induction n with
  | zero => intro v1 v2 v3 v4 v5 m hp hh hI hC h1 h2; omega
  | succ n ih =>
    intro v1 v2 v3 v4 v5 m hp hh hI hC h1 h2
    have hnn : ((n + 1 : Nat) : Int) = (n : Int) + 1 := by omega
    have cc : 0 ≤ (m.1 72 3).toInt ∧ (m.1 72 3).toInt ≤ 10 := hI.1 72 3
    have l0 := L0
    have l1 := L1
    have lM := L1000000
    have e1 : (v5 + (1 : Int32)).toInt = v5.toInt + 1 := a_addl L1 (by omega) (by omega)
    unfold fX12_isOnWay_6
    refine s_le (fun h3 => s_nb (by omega) (s_ret ⟨fun q c hc => h1 q c (by have := hc.1.2; omega) hc, fun q => h2 (by omega)⟩)) (fun h3 => ?_)
    have hx : 0 ≤ v5.toInt ∧ v5.toInt < (10 : Int) := by omega
    have hc5 : gC m v5 := ⟨by omega, by omega⟩
    have nxt : ¬ gow m v1 v2 v3.toInt v5 → v4.toInt = 0 → (0 : Int32).toInt = 0 → ∀ c : Int32, c.toInt < (v5 + (1 : Int32)).toInt → ¬ gow m v1 v2 v3.toInt c := by
      intro q q0 _ c hc hg
      by_cases e : c.toInt = v5.toInt
      · rw [Int32.toInt_inj.mp e] at hg; exact q hg
      · exact h1 q0 c (by omega) hg
    refine s_eq (fun h4 => ?_) (fun h4 => ?_)
    · refine s_ix hx (s_le (fun h5 => ?_) (fun h5 => ?_))
      · exact ih v1 v2 v3 (0 : Int32) (v5 + (1 : Int32)) m (by omega) hh hI hC (nxt (fun q => by have := q.2.1; omega) (by omega)) (fun q => by omega)
      · refine s_ix hx (s_bd (zgG hI hC (by omega) hc5 hh) (fun r5 h6 => ?_))
        have b100 : 0 ≤ (m.1 100 v5.toNatClampNeg).toInt ∧ (m.1 100 v5.toNatClampNeg).toInt ≤ 1000000 := hI.1 100 _
        have bG : gG m v1 v5 v2 ≤ 1000000 := by unfold gG; omega
        have bG0 : -2000000 ≤ gG m v1 v5 v2 := by
          have a1 : 0 ≤ gL m (gdel v1 v2) (m.1 77 v2.toNatClampNeg) ∧ gL m (gdel v1 v2) (m.1 77 v2.toNatClampNeg) ≤ 1000000 := hI.1 98 _
          have a2 : 0 ≤ gL m (gdel v1 v2) (m.1 76 v2.toNatClampNeg) ∧ gL m (gdel v1 v2) (m.1 76 v2.toNatClampNeg) ≤ 1000000 := hI.1 98 _
          have a3 : 0 ≤ (m.1 99 (((10 : Int32) * v5) + (m.1 76 v2.toNatClampNeg)).toNatClampNeg).toInt ∧ (m.1 99 (((10 : Int32) * v5) + (m.1 76 v2.toNatClampNeg)).toNatClampNeg).toInt ≤ 1000000 := hI.1 99 _
          have a4 : 0 ≤ (m.1 99 (((10 : Int32) * v5) + (m.1 77 v2.toNatClampNeg)).toNatClampNeg).toInt ∧ (m.1 99 (((10 : Int32) * v5) + (m.1 77 v2.toNatClampNeg)).toNatClampNeg).toInt ≤ 1000000 := hI.1 99 _
          obtain ⟨-, -, -, g4, g5, g6, g7⟩ := g_ends hI hC hh
          unfold gG gA gB; omega
        have e5 : ((m.1 100 v5.toNatClampNeg) + r5).toInt = (m.1 100 v5.toNatClampNeg).toInt + r5.toInt := a_add (by omega) (by omega)
        refine s_eq (fun h7 => ?_) (fun h7 => ?_)
        · exact ih v1 v2 v3 (1 : Int32) (v5 + (1 : Int32)) m (by omega) hh hI hC (fun q => by omega) (fun _ => ⟨v5, hc5, by omega, by omega⟩)
        · exact ih v1 v2 v3 (0 : Int32) (v5 + (1 : Int32)) m (by omega) hh hI hC (nxt (fun q => by have := q.2.2; omega) (by omega)) (fun q => by omega)
    · exact ih v1 v2 v3 (1 : Int32) (v5 + (1 : Int32)) m (by omega) hh hI hC (fun q => by omega) (fun _ => h2 (by omega))
theorem zow (v1 v2 v3 : Int32) (m : sm_S) (hp : 0 ≤ v1.toInt ∧ v1.toInt ≤ 16383) (hh : gH m v2) (hI : zI m) (hC : zC m) : Sf (fun r => (r.toInt = 0 → ∀ c, ¬ gow m v1 v2 v3.toInt c) ∧ (r.toInt ≠ 0 → ∃ c, gow m v1 v2 v3.toInt c)) (fX12_isOnWay v1 v2 v3 m) := by
  have hfu := fuE
  have l0 := L0
  unfold fX12_isOnWay
  refine zow_6 sm_fu v1 v2 v3 (0 : Int32) (0 : Int32) m (by omega) hh hI hC (fun _ c hc q => ?_) (fun q => by omega)
  have := q.1.1
  omega
/-! going through a gate -/
def gPB (a : Nat) (m : sm_S) (due : Int) (Lf : Int32 → Int) : Prop := ∀ x : Int32, gC m x → (m.1 a x.toNatClampNeg).toInt < 1000000 → due ≤ (m.1 a x.toNatClampNeg).toInt + Lf x
def gPC (a : Nat) (m : sm_S) (due : Int) (Lf : Int32 → Int) : Prop := ∃ x : Int32, gC m x ∧ (m.1 a x.toNatClampNeg).toInt + Lf x ≤ due
theorem zcomes (x1 x2 : Int32) (m : sm_S) (hx : 0 ≤ x1.toInt ∧ x1.toInt ≤ 9) (h2 : 0 ≤ x2.toInt) (hI : zI m) : Sf (fun r => (r.1 101 x1.toNatClampNeg).toInt = min (m.1 101 x1.toNatClampNeg).toInt (min 1000000 x2.toInt) ∧ (∀ y, y ≠ x1.toNatClampNeg → r.1 101 y = m.1 101 y) ∧ zI r ∧ Fr [(101, 999)] m r) (fX12_comesTo x1 x2 m) := by
  have b : 0 ≤ (m.1 101 x1.toNatClampNeg).toInt ∧ (m.1 101 x1.toNatClampNeg).toInt ≤ 1000000 := hI.1 101 _
  have x10 : 0 ≤ x1.toInt ∧ x1.toInt < (10 : Int) := by omega
  have e : (if (if x2 < (1000000 : Int32) then x2 else (1000000 : Int32)) < (m.1 101 (x1).toNatClampNeg) then (if x2 < (1000000 : Int32) then x2 else (1000000 : Int32)) else (m.1 101 (x1).toNatClampNeg)).toInt = min (m.1 101 x1.toNatClampNeg).toInt (min 1000000 x2.toInt) := by
    have q1 := g_min (s := x2) rfl
    have q2 := a_ilt (x := (if x2 < (1000000 : Int32) then x2 else (1000000 : Int32))) (y := m.1 101 x1.toNatClampNeg) (a := (if x2 < (1000000 : Int32) then x2 else (1000000 : Int32))) (b := m.1 101 x1.toNatClampNeg)
    rw [q1] at q2
    omega
  unfold fX12_comesTo
  refine s_ix x10 (s_ix x10 (s_ret ⟨(congrArg Int32.toInt r_hit).trans e, fun y hy => r_place hy, zI.w hI rfl (show 0 ≤ _ ∧ _ ≤ 1000000 by rw [e]; omega), Fr.w Fr.refl rfl⟩))
theorem g_pb {m r : sm_S} {x1 x2 : Int32} {due : Int} {Lf : Int32 → Int} (h3 : r.1 72 3 = m.1 72 3) (e1 : (r.1 101 x1.toNatClampNeg).toInt = min (m.1 101 x1.toNatClampNeg).toInt (min 1000000 x2.toInt)) (e2 : ∀ y, y ≠ x1.toNatClampNeg → r.1 101 y = m.1 101 y) (h1 : gC m x1) (hb : gPB 101 m due Lf) (hv : due ≤ x2.toInt + Lf x1) : gPB 101 r due Lf := by
  intro x hx hl
  unfold gC at hx
  rw [h3] at hx
  by_cases e : x.toNatClampNeg = x1.toNatClampNeg
  · have a1 := a_tn hx.1
    have a2 := a_tn h1.1
    have : x = x1 := Int32.toInt_inj.mp (by omega)
    subst this
    have := hb x h1
    omega
  · rw [e2 _ e] at hl ⊢
    exact hb x hx hl
theorem g_pc {m r : sm_S} {x1 x2 : Int32} {due : Int} {Lf : Int32 → Int} (h3 : r.1 72 3 = m.1 72 3) (e1 : (r.1 101 x1.toNatClampNeg).toInt = min (m.1 101 x1.toNatClampNeg).toInt (min 1000000 x2.toInt)) (e2 : ∀ y, y ≠ x1.toNatClampNeg → r.1 101 y = m.1 101 y) (h1 : gC m x1) (hb : gPC 101 m due Lf ∨ x2.toInt + Lf x1 ≤ due) : gPC 101 r due Lf := by
  rcases hb with ⟨x, hx, q⟩ | q
  · refine ⟨x, ?_, ?_⟩
    · unfold gC; rw [h3]; exact hx
    · by_cases e : x.toNatClampNeg = x1.toNatClampNeg
      · rw [e] at q ⊢; omega
      · rw [e2 _ e]; exact q
  · refine ⟨x1, ?_, by omega⟩
    unfold gC; rw [h3]; exact h1
theorem zgo_145 (m0 : sm_S) (due : Int) (Lf : Int32 → Int) : ∀ (n : Nat) (v2 : Int32) (m : sm_S), (0 ≤ v2.toInt ∧ v2.toInt ≤ 10 ∧ 10 - v2.toInt < (n : Int)) → (∀ y : Int32, gC m y → y.toInt < v2.toInt → m.1 100 y.toNatClampNeg = m.1 101 y.toNatClampNeg) → gPB 101 m due Lf → gPC 101 m due Lf → zI m → Fr wX12_goesThrough m0 m → Sf (fun r => zI r ∧ Fr wX12_goesThrough m0 r ∧ gPB 100 r due Lf ∧ gPC 100 r due Lf) (fX12_goesThrough_145 n v2 m) := by
  intro n
  induction n with
  | zero => intro v2 m hp hy hb hc hI hF; omega
  | succ n ih =>
    intro v2 m hp hy hb hc hI hF
    have hnn : ((n + 1 : Nat) : Int) = (n : Int) + 1 := by omega
    have cc : 0 ≤ (m.1 72 3).toInt ∧ (m.1 72 3).toInt ≤ 10 := hI.1 72 3
    unfold fX12_goesThrough_145
    refine s_le (fun h1 => ?_) (fun h1 => ?_)
    · refine s_ret ⟨hI, hF, fun x hx hl => ?_, ?_⟩
      · have e := hy x hx (by have := hx.2; omega)
        rw [e] at hl ⊢
        exact hb x hx hl
      · obtain ⟨x, hx, q⟩ := hc
        refine ⟨x, hx, ?_⟩
        rw [hy x hx (by have := hx.2; omega)]; exact q
    · have hx : 0 ≤ v2.toInt ∧ v2.toInt < (10 : Int) := by omega
      have e1 : (v2 + (1 : Int32)).toInt = v2.toInt + 1 := a_addl L1 (by omega) (by omega)
      have b : 0 ≤ (m.1 101 v2.toNatClampNeg).toInt ∧ (m.1 101 v2.toNatClampNeg).toInt ≤ 1000000 := hI.1 101 _
      refine s_ix hx (s_ix hx ?_)
      refine ih (v2 + (1 : Int32)) _ (by omega) (fun y gy hq => ?_) hb hc (zI.w hI rfl b) (Fr.w hF rfl)
      have a1 := a_tn gy.1
      have a2 := a_tn hx.1
      show (sm_w1 m 100 v2.toNatClampNeg (m.1 101 v2.toNatClampNeg)).1 100 y.toNatClampNeg = m.1 101 y.toNatClampNeg
      by_cases e : y.toNatClampNeg = v2.toNatClampNeg
      · rw [e, r_hit]
      · rw [r_place e]; exact hy y gy (by omega)
/-- what the ways through h must be, of the costs ahead -/
def gH1 (m : sm_S) (h : Int32) (due : Int) (Lf : Int32 → Int) (c : Int32) : Prop := due ≤ (m.1 100 c.toNatClampNeg).toInt + (m.1 99 (((10 : Int32) * c) + (m.1 76 h.toNatClampNeg)).toNatClampNeg).toInt + (m.1 78 h.toNatClampNeg).toInt + Lf (m.1 77 h.toNatClampNeg) ∧ due ≤ (m.1 100 c.toNatClampNeg).toInt + (m.1 99 (((10 : Int32) * c) + (m.1 77 h.toNatClampNeg)).toNatClampNeg).toInt + ((m.1 78 h.toNatClampNeg).toInt + (m.1 82 h.toNatClampNeg).toInt) + Lf (m.1 76 h.toNatClampNeg)
def gH2 (m : sm_S) (h : Int32) (due : Int) (Lf : Int32 → Int) (c : Int32) : Prop := (m.1 100 c.toNatClampNeg).toInt + (m.1 99 (((10 : Int32) * c) + (m.1 76 h.toNatClampNeg)).toNatClampNeg).toInt + (m.1 78 h.toNatClampNeg).toInt + Lf (m.1 77 h.toNatClampNeg) ≤ due ∨ (m.1 100 c.toNatClampNeg).toInt + (m.1 99 (((10 : Int32) * c) + (m.1 77 h.toNatClampNeg)).toNatClampNeg).toInt + ((m.1 78 h.toNatClampNeg).toInt + (m.1 82 h.toNatClampNeg).toInt) + Lf (m.1 76 h.toNatClampNeg) ≤ due
theorem zgo_27 (m0 : sm_S) (due : Int) (Lf : Int32 → Int) : ∀ (n : Nat) (v1 v2 : Int32) (m : sm_S), (0 ≤ v2.toInt ∧ v2.toInt ≤ 10 ∧ 10 - v2.toInt < (n : Int)) → gH m v1 → zC m → (∀ c : Int32, gC m c → (m.1 100 c.toNatClampNeg).toInt < 1000000 → gH1 m v1 due Lf c) → ((∃ c : Int32, gC m c ∧ v2.toInt ≤ c.toInt ∧ (m.1 100 c.toNatClampNeg).toInt < 1000000 ∧ gH2 m v1 due Lf c) ∨ gPC 101 m due Lf) → gPB 101 m due Lf → zI m → Fr wX12_goesThrough m0 m → Sf (fun r => zI r ∧ Fr wX12_goesThrough m0 r ∧ gPB 100 r due Lf ∧ gPC 100 r due Lf) (fX12_goesThrough_27 n v1 v2 m) := by
  intro n
  induction n with
  | zero => intro v1 v2 m hp hh hC h1 h2 hb hI hF; omega
  | succ n ih =>
    intro v1 v2 m hp hh hC h1 h2 hb hI hF
    have hnn : ((n + 1 : Nat) : Int) = (n : Int) + 1 := by omega
    have hfu := fuE
    have l0 := L0
    have lM := L1000000
    have cc : 0 ≤ (m.1 72 3).toInt ∧ (m.1 72 3).toInt ≤ 10 := hI.1 72 3
    have ch : 0 ≤ (m.1 72 6).toInt ∧ (m.1 72 6).toInt ≤ 14 := hI.1 72 6
    unfold fX12_goesThrough_27
    refine s_le (fun h3 => ?_) (fun h3 => ?_)
    · refine zgo_145 m0 due Lf sm_fu (0 : Int32) m (by omega) (fun y gy hq => by have := gy.1; omega) hb ?_ hI hF
      rcases h2 with ⟨c, q1, q2, -⟩ | q
      · have := q1.2; omega
      · exact q
    · have hx : 0 ≤ v2.toInt ∧ v2.toInt < (10 : Int) := by omega
      have hg2 : gC m v2 := ⟨by omega, by omega⟩
      have e1 : (v2 + (1 : Int32)).toInt = v2.toInt + 1 := a_addl L1 (by omega) (by omega)
      refine s_ix hx (s_le (fun h4 => ?_) (fun h4 => ?_))
      · refine ih v1 (v2 + (1 : Int32)) m (by omega) hh hC h1 ?_ hb hI hF
        rcases h2 with ⟨c, q1, q2, q3, q4⟩ | q
        · refine Or.inl ⟨c, q1, ?_, q3, q4⟩
          by_cases e : c.toInt = v2.toInt
          · rw [Int32.toInt_inj.mp e] at q3; omega
          · omega
        · exact Or.inr q
      · obtain ⟨g1, g2, g3, g4, g5, g6, g7⟩ := g_ends hI hC hh
        have hhu := hh
        unfold gH at hhu
        have x14 : 0 ≤ v1.toInt ∧ v1.toInt < (14 : Int) := by omega
        have g1u := g1
        have g2u := g2
        unfold gC at g1u g2u
        have b100 : 0 ≤ (m.1 100 v2.toNatClampNeg).toInt ∧ (m.1 100 v2.toNatClampNeg).toInt ≤ 1000000 := hI.1 100 _
        have i1 := g_idx (X := v2) (c := m.1 76 v1.toNatClampNeg) hx.1 (by omega) g1u.1 (by omega)
        have i2 := g_idx (X := v2) (c := m.1 77 v1.toNatClampNeg) hx.1 (by omega) g2u.1 (by omega)
        have b99 : 0 ≤ (m.1 99 (((10 : Int32) * v2) + (m.1 76 v1.toNatClampNeg)).toNatClampNeg).toInt ∧ (m.1 99 (((10 : Int32) * v2) + (m.1 76 v1.toNatClampNeg)).toNatClampNeg).toInt ≤ 1000000 := hI.1 99 _
        have b99' : 0 ≤ (m.1 99 (((10 : Int32) * v2) + (m.1 77 v1.toNatClampNeg)).toNatClampNeg).toInt ∧ (m.1 99 (((10 : Int32) * v2) + (m.1 77 v1.toNatClampNeg)).toNatClampNeg).toInt ≤ 1000000 := hI.1 99 _
        have hq1 := h1 v2 hg2 (by omega)
        unfold gH1 at hq1
        refine s_ix x14 (s_ix hx (s_ix x14 (s_ix (by omega) (s_ix x14 ?_))))
        refine s_bd (zX12_minutesFrom v1 (m.1 76 v1.toNatClampNeg) m (by omega) hI) (fun r10 p10 => ?_)
        have v10 : r10.toInt = (m.1 78 v1.toNatClampNeg).toInt := by omega
        have s1 : ((m.1 100 v2.toNatClampNeg) + (m.1 99 (((10 : Int32) * v2) + (m.1 76 v1.toNatClampNeg)).toNatClampNeg)).toInt = (m.1 100 v2.toNatClampNeg).toInt + (m.1 99 (((10 : Int32) * v2) + (m.1 76 v1.toNatClampNeg)).toNatClampNeg).toInt := a_add (by omega) (by omega)
        have s2 : (((m.1 100 v2.toNatClampNeg) + (m.1 99 (((10 : Int32) * v2) + (m.1 76 v1.toNatClampNeg)).toNatClampNeg)) + r10).toInt = (m.1 100 v2.toNatClampNeg).toInt + (m.1 99 (((10 : Int32) * v2) + (m.1 76 v1.toNatClampNeg)).toNatClampNeg).toInt + (m.1 78 v1.toNatClampNeg).toInt := by
          rw [a_add (by omega) (by omega), s1, v10]
        refine s_bd (zcomes (m.1 77 v1.toNatClampNeg) _ m (by omega) (by omega) hI) (fun m12 p12 => ?_)
        obtain ⟨c1, c2, i12, f12⟩ := p12
        have t3 : m12.1 72 3 = m.1 72 3 := f12 72 3 rfl
        have t6 : m12.1 72 6 = m.1 72 6 := f12 72 6 rfl
        have t76 : m12.1 76 v1.toNatClampNeg = m.1 76 v1.toNatClampNeg := f12 76 _ rfl
        have t77 : m12.1 77 v1.toNatClampNeg = m.1 77 v1.toNatClampNeg := f12 77 _ rfl
        have t78 : m12.1 78 v1.toNatClampNeg = m.1 78 v1.toNatClampNeg := f12 78 _ rfl
        have t82 : m12.1 82 v1.toNatClampNeg = m.1 82 v1.toNatClampNeg := f12 82 _ rfl
        have t99 : ∀ k, m12.1 99 k = m.1 99 k := fun k => f12 99 k rfl
        have t100 : ∀ k, m12.1 100 k = m.1 100 k := fun k => f12 100 k rfl
        have pb12 := g_pb t3 c1 c2 g2 hb (by rw [s2]; omega)
        rw [t76, t77, t99, t100]
        refine s_ix x14 (s_ix hx (s_ix x14 (s_ix (by omega) (s_ix x14 ?_))))
        refine s_bd (zX12_minutesFrom v1 (m.1 77 v1.toNatClampNeg) m12 (by rw [t6]; omega) i12) (fun r19 p19 => ?_)
        rw [t76, t78, t82] at p19
        have v19 : r19.toInt = (m.1 78 v1.toNatClampNeg).toInt + (m.1 82 v1.toNatClampNeg).toInt := by omega
        have s3 : ((m.1 100 v2.toNatClampNeg) + (m.1 99 (((10 : Int32) * v2) + (m.1 77 v1.toNatClampNeg)).toNatClampNeg)).toInt = (m.1 100 v2.toNatClampNeg).toInt + (m.1 99 (((10 : Int32) * v2) + (m.1 77 v1.toNatClampNeg)).toNatClampNeg).toInt := a_add (by omega) (by omega)
        have s4 : (((m.1 100 v2.toNatClampNeg) + (m.1 99 (((10 : Int32) * v2) + (m.1 77 v1.toNatClampNeg)).toNatClampNeg)) + r19).toInt = (m.1 100 v2.toNatClampNeg).toInt + (m.1 99 (((10 : Int32) * v2) + (m.1 77 v1.toNatClampNeg)).toNatClampNeg).toInt + ((m.1 78 v1.toNatClampNeg).toInt + (m.1 82 v1.toNatClampNeg).toInt) := by
          rw [a_add (by omega) (by omega), s3, v19]
        refine s_bd (zcomes (m.1 76 v1.toNatClampNeg) _ m12 (by omega) (by omega) i12) (fun m21 p21 => ?_)
        obtain ⟨d1, d2, i21, f21⟩ := p21
        have u3 : m21.1 72 3 = m12.1 72 3 := f21 72 3 rfl
        have g1' : gC m12 (m.1 76 v1.toNatClampNeg) := by unfold gC; rw [t3]; exact g1
        have pb21 := g_pb u3 d1 d2 g1' pb12 (by rw [s4]; omega)
        have f : Fr [(101, 999)] m m21 := Fr.trans f12 f21 rfl
        have w3 : m21.1 72 3 = m.1 72 3 := f 72 3 rfl
        have w6 : m21.1 72 6 = m.1 72 6 := f 72 6 rfl
        have w100 : ∀ k, m21.1 100 k = m.1 100 k := fun k => f 100 k rfl
        have w99 : ∀ k, m21.1 99 k = m.1 99 k := fun k => f 99 k rfl
        have w76 : ∀ k, m21.1 76 k = m.1 76 k := fun k => f 76 k rfl
        have w77 : ∀ k, m21.1 77 k = m.1 77 k := fun k => f 77 k rfl
        have w78 : ∀ k, m21.1 78 k = m.1 78 k := fun k => f 78 k rfl
        have w82 : ∀ k, m21.1 82 k = m.1 82 k := fun k => f 82 k rfl
        refine ih v1 (v2 + (1 : Int32)) m21 (by omega) (by unfold gH; rw [w6]; exact hh) (zC.fr hC f rfl) (fun c hc hl => ?_) ?_ pb21 i21 (Fr.trans hF f rfl)
        · unfold gC at hc
          rw [w3] at hc
          rw [w100] at hl
          have := h1 c hc hl
          unfold gH1 at this ⊢
          rw [w100, w99, w99, w76, w77, w78, w82]
          exact this
        · have far : gPC 101 m12 due Lf → gPC 101 m21 due Lf := fun q => g_pc u3 d1 d2 g1' (Or.inl q)
          rcases h2 with ⟨c, q1, q2, q3, q4⟩ | q
          · by_cases e : c.toInt = v2.toInt
            · have : c = v2 := Int32.toInt_inj.mp e
              subst this
              refine Or.inr ?_
              unfold gH2 at q4
              rcases q4 with q4 | q4
              · exact far (g_pc t3 c1 c2 g2 (Or.inr (by rw [s2]; exact q4)))
              · exact g_pc u3 d1 d2 g1' (Or.inr (by rw [s4]; exact q4))
            · refine Or.inl ⟨c, ?_, by omega, ?_, ?_⟩
              · unfold gC; rw [w3]; exact q1
              · rw [w100]; exact q3
              · unfold gH2 at q4 ⊢
                rw [w100, w99, w99, w76, w77, w78, w82]; exact q4
          · exact Or.inr (far (g_pc t3 c1 c2 g2 (Or.inl q)))
