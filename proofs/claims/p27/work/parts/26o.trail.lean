/-! TRAIL: the least row's minutes -/
theorem tds {α γ : Type} {o : Option α} {k : α → Option γ} {b : γ} (e : o.bind k = some b) : ∃ s, o = some s ∧ k s = some b := by
  cases o with
  | none => cases e
  | some s => exact ⟨s, rfl, e⟩
theorem v_holds (m s : sm_S) (hL : XL m s) (hI : zI m) (hJ : zI s) (hC : zC s) (F X : Int32) : ∀ (n : Nat) (v3 : Int32), 0 ≤ v3.toInt → v3.toInt ≤ (m.1 3 1).toInt → (m.1 3 1).toInt - v3.toInt < (n : Int) → (∀ h : Nat, (h : Int) < v3.toInt → bt X h = true → bt F (ta s h) = true) → Sf (fun r => (r.toInt = 1 ∧ ∀ h : Nat, h < nH s → bt X h = true → bt F (ta s h) = true) ∨ (r.toInt = 0 ∧ ¬ ∀ h : Nat, h < nH s → bt X h = true → bt F (ta s h) = true)) (fX2_holdsAll_2 n F X v3 m) := by
  have l0 := L0
  have l1 := L1
  have c31 : 0 ≤ (m.1 3 1).toInt ∧ (m.1 3 1).toInt ≤ 14 := hI.1 3 1
  have e31 := hL.hedge
  obtain ⟨eH, eC, bH, bC⟩ := t_n hJ
  intro n
  induction n with
  | zero => intro v3 h0 h1 hn; have hz : ((0 : Nat) : Int) = 0 := rfl; omega
  | succ n ih =>
    intro v3 h0 h1 hn hb
    have hnn : ((n + 1 : Nat) : Int) = (n : Int) + 1 := by omega
    have et := a_tn h0
    unfold fX2_holdsAll_2
    refine s_le (fun g => s_ret (Or.inl ⟨l1, fun h hh => hb h (by omega)⟩)) (fun g => ?_)
    have e3 : (v3 + (1 : Int32)).toInt = v3.toInt + 1 := a_addl L1 (by omega) (by omega)
    have h00 := b_has0 (x := X) h0 (show v3.toInt < 32 by omega)
    have nx : (bt X v3.toNatClampNeg = true → bt F (ta s v3.toNatClampNeg) = true) → ∀ h : Nat, (h : Int) < (v3 + (1 : Int32)).toInt → bt X h = true → bt F (ta s h) = true := by
      intro hq h hh
      by_cases q : h = v3.toNatClampNeg
      · subst q; exact hq
      · exact hb h (by omega)
    refine s_if (fun q => ?_) (fun q => ?_)
    · refine ih (v3 + (1 : Int32)) (by omega) (by omega) (by omega) (nx (fun z => ?_))
      rw [h00.mp q] at z; cases z
    · have hX : bt X v3.toNatClampNeg = true := by
        cases hb2 : bt X v3.toNatClampNeg with
        | true => rfl
        | false => exact absurd (h00.mpr hb2) q
      obtain ⟨a1, b1, a2, b2, ab⟩ := t_ends hJ hC (h := v3.toNatClampNeg) (by omega)
      obtain ⟨q1, -⟩ := hL.row h0 (by omega)
      refine s_ix (by omega) ?_
      rw [q1]
      have h01 := b_has0 (x := F) (b := s.1 76 v3.toNatClampNeg) (by omega) (by omega)
      have ea : ta s v3.toNatClampNeg = (s.1 76 v3.toNatClampNeg).toNatClampNeg := rfl
      refine s_if (fun q2 => s_ret (Or.inr ⟨l0, fun z => ?_⟩)) (fun q2 => ?_)
      · have := z v3.toNatClampNeg (by omega) hX
        rw [ea, h01.mp q2] at this; cases this
      · refine ih (v3 + (1 : Int32)) (by omega) (by omega) (by omega) (nx (fun _ => ?_))
        cases hb2 : bt F (ta s v3.toNatClampNeg) with
        | true => rfl
        | false => exact absurd (h01.mpr hb2) q2
theorem par_f {a b : Nat → Nat} {v : Nat} {S : Nat → Bool} : ∀ {n : Nat}, (∀ h, h < n → S h = false) → par a b S v n = false
  | 0, _ => rfl
  | n + 1, h => by
    show (par a b S v n ^^ (S n && (decide (a n = v) ^^ decide (b n = v)))) = false
    rw [par_f (fun k hk => h k (by omega)), h n (by omega)]; rfl
theorem tGE_0 (s : sm_S) (c : Int32) : tGE s 0 c := by
  refine ⟨fun h _ hb => ?_, Or.inl (fun v => par_f (fun h _ => b_0 h))⟩
  rw [b_0] at hb; cases hb
theorem s_isTrail {m s : sm_S} (hL : XL m s) (hI : zI m) (hJ : zI s) (hC : zC s) {c X : Int32} (hc : gC s c) (hX : 0 ≤ X.toInt ∧ X.toInt ≤ 16383) : Sf (fun r => r.toInt ≠ 0 ↔ tGE s X c) (fX2_isTrail c X m) := by
  have l0 := L0
  have l1 := L1
  have l2 := L2
  have hfu := fuE
  obtain ⟨eH, eC, bH, bC⟩ := t_n hJ
  have hc' := hc
  unfold gC at hc'
  have et := a_tn hc'.1
  have c31 : 0 ≤ (m.1 3 1).toInt ∧ (m.1 3 1).toInt ≤ 14 := hI.1 3 1
  unfold fX2_isTrail
  obtain ⟨x, ex, hx⟩ := s_odd11 hL hI hJ hC X
  obtain ⟨y, ey, hyb, hy⟩ := zod X s hX hJ hC
  have exy : x = y := b_ext (fun i hi => (hx i hi).trans (hy i hi).symm)
  subst exy
  rw [ex, Option.bind_some]
  have hang : ∀ (k : Int32 → Option Int32) (Q : Int32 → Prop), (∀ F : Int32, (∀ i : Nat, i < 32 → (bt F i = true ↔ cn (ta s) (tb s) (nH s) (bt X) c.toNatClampNeg i)) → Sf Q (k F)) → Sf Q ((fX2_hanging c X m).bind k) := by
    intro k Q h
    exact s_bd (s_hang hL hI hJ hC X (c := c) (by omega)) (fun F hF => h F hF)
  have conn : ∀ F : Int32, (∀ i : Nat, i < 32 → (bt F i = true ↔ cn (ta s) (tb s) (nH s) (bt X) c.toNatClampNeg i)) → ((∀ h : Nat, h < nH s → bt X h = true → bt F (ta s h) = true) ↔ ∀ h, h < nH s → bt X h = true → cn (ta s) (tb s) (nH s) (bt X) c.toNatClampNeg (ta s h)) := by
    intro F hF
    have hlt : ∀ h, h < nH s → ta s h < 32 := fun h hh => by have := t_ends hJ hC hh; omega
    exact ⟨fun z h hh hb => (hF _ (hlt h hh)).mp (z h hh hb), fun z h hh hb => (hF _ (hlt h hh)).mpr (z h hh hb)⟩
  have holds : ∀ F : Int32, Sf (fun r => (r.toInt = 1 ∧ ∀ h : Nat, h < nH s → bt X h = true → bt F (ta s h) = true) ∨ (r.toInt = 0 ∧ ¬ ∀ h : Nat, h < nH s → bt X h = true → bt F (ta s h) = true)) (fX2_holdsAll F X m) := fun F => v_holds m s hL hI hJ hC F X sm_fu (0 : Int32) (by omega) (by omega) (by omega) (fun h hh => by omega)
  have hp10 : ∀ v, 10 ≤ v → par (ta s) (tb s) (bt X) v (nH s) = false := fun v hv => t_par10 hJ hC hv
  have fin : ∀ F : Int32, (∀ i : Nat, i < 32 → (bt F i = true ↔ cn (ta s) (tb s) (nH s) (bt X) c.toNatClampNeg i)) → ((∀ v, par (ta s) (tb s) (bt X) v (nH s) = false) ∨ ∃ t, t ≠ c.toNatClampNeg ∧ ∀ v, par (ta s) (tb s) (bt X) v (nH s) = (decide (v = c.toNatClampNeg) ^^ decide (v = t))) → Sf (fun r => r.toInt ≠ 0 ↔ tGE s X c) ((fX2_holdsAll F X m).bind fun r6 => if r6 = 0 then (some (0 : Int32)) else (some (1 : Int32))) := by
    intro F hF hodd
    refine s_bd (holds F) (fun r6 h6 => ?_)
    refine s_eq (fun g => s_ret ⟨fun z => absurd l0 z, fun z => ?_⟩) (fun g => s_ret ⟨fun _ => ⟨?_, hodd⟩, fun _ z => by omega⟩)
    · rcases h6 with h6 | h6
      · omega
      · exact absurd ((conn F hF).mpr z.1) h6.2
    · rcases h6 with h6 | h6
      · exact (conn F hF).mp h6.2
      · omega
  refine s_if (fun g => ?_) (fun g => ?_)
  · refine hang _ _ (fun F hF => fin F hF (Or.inl (fun v => ?_)))
    rcases Nat.lt_or_ge v 10 with hv | hv
    · rw [← hx v (by omega), g, b_0]
    · exact hp10 v hv
  · have nodd : ¬ ∀ v, par (ta s) (tb s) (bt X) v (nH s) = false := fun z => g (b_ext (fun i hi => by rw [hx i hi, z i, b_0]))
    obtain ⟨r8, e8⟩ := bc_some x m
    rw [e8, Option.bind_some]
    have key := bc_iff (c := c.toNatClampNeg) hyb (by omega) e8
    have h00 := b_has0 (x := x) hc'.1 (show c.toInt < 32 by omega)
    have nGE : ¬ (r8 = 2 ∧ bt x c.toNatClampNeg = true) → ¬ tGE s X c := by
      rintro hn ⟨-, hodd⟩
      rcases hodd with hodd | ⟨t, ht, hodd⟩
      · exact nodd hodd
      · refine hn (key.mpr ⟨t, ?_, ht, fun v hv => by rw [hx v hv]; exact hodd v⟩)
        rcases Nat.lt_or_ge t 10 with h | h
        · exact h
        · have := hodd t
          rw [hp10 t h, decide_eq_true (p := t = t) rfl, decide_eq_false ht] at this
          cases this
    refine s_if (fun g2 => ?_) (fun g2 => s_ret ⟨fun z => absurd l0 z, fun z => absurd z (nGE (fun y => g2 y.1))⟩)
    refine s_if (fun g3 => s_ret ⟨fun z => absurd l0 z, fun z => absurd z (nGE (fun y => ?_))⟩) (fun g3 => ?_)
    · rw [h00.mp g3] at y; exact absurd y.2 (by decide)
    · have hb : bt x c.toNatClampNeg = true := by
        cases hb2 : bt x c.toNatClampNeg with
        | true => rfl
        | false => exact absurd (h00.mpr hb2) g3
      obtain ⟨t, t10, ht, hodd⟩ := key.mp ⟨g2, hb⟩
      refine hang _ _ (fun F hF => fin F hF (Or.inr ⟨t, ht, fun v => ?_⟩))
      rcases Nat.lt_or_ge v 10 with hv | hv
      · rw [← hx v (by omega)]; exact hodd v (by omega)
      · rw [hp10 v hv, decide_eq_false (show ¬ v = c.toNatClampNeg by omega), decide_eq_false (show ¬ v = t by omega)]; rfl
/-- hedge h can be the next of a trail over X from c -/
def nxP (m s : sm_S) (X c h : Int32) : Prop := bt X h.toNatClampNeg = true ∧ (m.1 6 h.toNatClampNeg = c ∨ m.1 7 h.toNatClampNeg = c) ∧ tGE s (gdel X h) (otE m h c)
theorem gdel.b {X : Int32} (h : Int32) (hX : 0 ≤ X.toInt ∧ X.toInt ≤ 16383) : 0 ≤ (gdel X h).toInt ∧ (gdel X h).toInt ≤ 16383 := by
  have := a_andl (x := X) (y := (((1 : Int32) <<< (h &&& 31)) ^^^ (-1 : Int32))) hX.1
  unfold gdel
  omega
theorem otE.c {m s : sm_S} (hL : XL m s) (hI : zI m) (hJ : zI s) (hC : zC s) {h c : Int32} (h0 : 0 ≤ h.toInt) (h1 : h.toInt < (m.1 3 1).toInt) : gC s (otE m h c) := by
  have et := a_tn h0
  have e31 := hL.hedge
  obtain ⟨eH, eC, bH, bC⟩ := t_n hJ
  obtain ⟨a1, b1, a2, b2, ab⟩ := t_ends hJ hC (h := h.toNatClampNeg) (by omega)
  obtain ⟨q1, q2, -⟩ := hL.row h0 h1
  unfold otE gC
  rw [q1, q2]
  split <;> omega
theorem v_step {m s : sm_S} (hL : XL m s) (hI : zI m) (hJ : zI s) (hC : zC s) {X c : Int32} (hX : 0 ≤ X.toInt ∧ X.toInt ≤ 16383) : ∀ (n : Nat) (v3 : Int32), 0 ≤ v3.toInt → v3.toInt ≤ (m.1 3 1).toInt → (m.1 3 1).toInt - v3.toInt < (n : Int) → (∀ h : Int32, 0 ≤ h.toInt → h.toInt < v3.toInt → ¬ nxP m s X c h) → Sf (fun r => (r.toInt = -1 ∧ ∀ h : Int32, 0 ≤ h.toInt → h.toInt < (m.1 3 1).toInt → ¬ nxP m s X c h) ∨ (0 ≤ r.toInt ∧ r.toInt < (m.1 3 1).toInt ∧ nxP m s X c r ∧ ∀ h : Int32, 0 ≤ h.toInt → h.toInt < r.toInt → ¬ nxP m s X c h)) (fX4_leastStep_2 n c X v3 m) := by
  have l0 := L0
  have l1 := L1
  have ln1 := Ln1
  have c31 : 0 ≤ (m.1 3 1).toInt ∧ (m.1 3 1).toInt ≤ 14 := hI.1 3 1
  intro n
  induction n with
  | zero => intro v3 h0 h1 hn; have hz : ((0 : Nat) : Int) = 0 := rfl; omega
  | succ n ih =>
    intro v3 h0 h1 hn hb
    have hnn : ((n + 1 : Nat) : Int) = (n : Int) + 1 := by omega
    unfold fX4_leastStep_2
    refine s_le (fun g => s_ret (Or.inl ⟨ln1, fun h ha hb2 => hb h ha (by omega)⟩)) (fun g => ?_)
    have e3 : (v3 + (1 : Int32)).toInt = v3.toInt + 1 := a_addl L1 (by omega) (by omega)
    have h00 := b_has0 (x := X) h0 (show v3.toInt < 32 by omega)
    have hh : 0 ≤ v3.toInt ∧ v3.toInt < ((14 : Nat) : Int) := by omega
    have nx : ¬ nxP m s X c v3 → Sf (fun r => (r.toInt = -1 ∧ ∀ h : Int32, 0 ≤ h.toInt → h.toInt < (m.1 3 1).toInt → ¬ nxP m s X c h) ∨ (0 ≤ r.toInt ∧ r.toInt < (m.1 3 1).toInt ∧ nxP m s X c r ∧ ∀ h : Int32, 0 ≤ h.toInt → h.toInt < r.toInt → ¬ nxP m s X c h)) (fX4_leastStep_2 n c X (v3 + (1 : Int32)) m) := by
      intro hq
      refine ih (v3 + (1 : Int32)) (by omega) (by omega) (by omega) (fun h ha hb2 => ?_)
      by_cases q : h = v3
      · subst q; exact hq
      · have : h.toInt ≠ v3.toInt := fun z => q (eqI.mpr z)
        exact hb h ha (by omega)
    refine s_if (fun q => nx (fun z => ?_)) (fun q => ?_)
    · have := z.1; rw [h00.mp q] at this; cases this
    · have hX2 : bt X v3.toNatClampNeg = true := by
        cases hb2 : bt X v3.toNatClampNeg with
        | true => rfl
        | false => exact absurd (h00.mpr hb2) q
      rw [e_touch11 hh, Option.bind_some]
      by_cases qe : (m.1 6 v3.toNatClampNeg = c ∨ m.1 7 v3.toNatClampNeg = c)
      · rw [if_pos qe, if_neg (show ¬ ((1 : Int32) = 0) by decide), e_other11 hh, Option.bind_some]
        refine s_bd (s_isTrail hL hI hJ hC (otE.c hL hI hJ hC h0 (by omega)) (gdel.b v3 hX)) (fun r6 h6 => ?_)
        refine s_eq (fun g6 => nx (fun z => ?_)) (fun g6 => s_ret (Or.inr ⟨h0, g, ⟨hX2, qe, h6.mp (by omega)⟩, hb⟩))
        have := h6.mpr z.2.2
        omega
      · rw [if_neg qe, if_pos rfl]
        exact nx (fun z => qe z.2.1)
theorem gdel_lt2 {X : Int32} {h : Int32} {N : Nat} (h0 : 0 ≤ h.toInt) (h1 : h.toInt < 32) (hs : ∀ i, i < 32 → bt X i = true → i < N) : ∀ i, i < 32 → bt (gdel X h) i = true → i < N := by
  intro i hi hb
  unfold gdel at hb
  rw [b_del h0 h1 hi] at hb
  exact hs i hi (Bool.and_eq_true_iff.mp hb).1
theorem p14_del {X h : Int32} (h0 : 0 ≤ h.toInt) (h1 : h.toInt < 14) (hb : bt X h.toNatClampNeg = true) : p14 (gdel X h) + 1 = p14 X := by
  have e := a_tn h0
  exact cnt_del h.toNatClampNeg (by omega) hb (fun k hk => b_del h0 (by omega) (by omega))
theorem p14_0 {X : Int32} (hs : ∀ i, i < 32 → bt X i = true → i < 14) (h : p14 X = 0) : X = 0 := by
  refine b_ext (fun i hi => ?_)
  rw [b_0]
  cases hb : bt X i with
  | false => rfl
  | true =>
    have := cnt_0 (p := bt X) (n := 14) h i (hs i hi hb)
    rw [hb] at this; cases this
/-- the reference's search for the next hedge -/
theorem v_49 (m : sm_S) (hI : zI m) (k42 : Int32 → Int32 → Int32 → sm_S → Option (Int32 × sm_S)) (X c v4 : Int32) (hX : 0 ≤ X.toInt ∧ X.toInt ≤ 16383) (b : Int32 × sm_S) (s0 : sm_S) (hL0 : XL m s0) (hJ0 : zI s0) (hC0 : zC s0) (hs : ∀ i, i < 32 → bt X i = true → i < nH s0) (h14 : (s0.1 72 1).toInt ≤ 23) (hex : ∃ h : Int32, 0 ≤ h.toInt ∧ h.toInt < (m.1 3 1).toInt ∧ nxP m s0 X c h) : ∀ (n : Nat) (v5 : Int32) (s : sm_S), Fr [(94, 999)] s0 s → zI s → 0 ≤ v5.toInt → v5.toInt ≤ 14 → (∀ h : Int32, 0 ≤ h.toInt → h.toInt < v5.toInt → ¬ nxP m s0 X c h) → fX12_trail_49 k42 n X c v4 v5 s = some b → ∃ (h : Int32) (s' : sm_S), 0 ≤ h.toInt ∧ h.toInt < (m.1 3 1).toInt ∧ nxP m s0 X c h ∧ (∀ k : Int32, 0 ≤ k.toInt → k.toInt < h.toInt → ¬ nxP m s0 X c k) ∧ Fr [(72, 1), (73, 999), (94, 999)] s0 s' ∧ zI s' ∧ (s'.1 72 1).toInt = (s0.1 72 1).toInt + 1 ∧ k42 (gdel X h) (otE m h c) (v4 + mnF m h c) s' = some b := by
  have l0 := L0
  have l1 := L1
  have c31 : 0 ≤ (m.1 3 1).toInt ∧ (m.1 3 1).toInt ≤ 14 := hI.1 3 1
  obtain ⟨eH, eC, bH, bC⟩ := t_n hJ0
  have e310 := hL0.hedge
  intro n
  induction n with
  | zero => intro v5 s G hJ h0 h1 hb h; cases h
  | succ n ih =>
    intro v5 s G hJ h0 h1 hb h
    have et := a_tn h0
    have hL : XL m s := hL0.fr (W := []) Fr.refl G rfl
    have hC : zC s := hC0.fr G rfl
    obtain ⟨w1, w2, w3, w4⟩ := t_same2 (Fr.sub G rfl : Fr [(72, 0), (94, 999)] s0 s)
    have hGE : ∀ Y e : Int32, tGE s Y e ↔ tGE s0 Y e := by intro Y e; unfold tGE; rw [w1, w2, w3]
    unfold fX12_trail_49 fX12_has at h
    have e5 : (v5 + (1 : Int32)).toInt = v5.toInt + 1 := a_addl L1 (by omega) (by omega)
    have hh := b_has (x := X) h0 (show v5.toInt < 32 by omega)
    have nxt : ∀ s2 : sm_S, Fr [(94, 999)] s0 s2 → zI s2 → v5.toInt < 14 → ¬ nxP m s0 X c v5 → fX12_trail_49 k42 n X c v4 (v5 + (1 : Int32)) s2 = some b → _ := fun s2 G2 J2 hv hq h2 => ih (v5 + (1 : Int32)) s2 G2 J2 (by omega) (by omega) (fun k ha hb2 => by
      by_cases q : k = v5
      · subst q; exact hq
      · have : k.toInt ≠ v5.toInt := fun z => q (eqI.mpr z)
        exact hb k ha (by omega)) h2
    by_cases q : ((X >>> (v5 &&& 31)) &&& (1 : Int32)) = (1 : Int32)
    · have hX5 := hh.mp q
      have hlt := hs v5.toNatClampNeg (by omega) hX5
      rw [if_pos q, Option.bind_some, if_neg (show ¬ ((1 : Int32) = 0) by decide), e_isEnd12 hL hI h0 (by omega), Option.bind_some] at h
      by_cases qe : (m.1 6 v5.toNatClampNeg = c ∨ m.1 7 v5.toNatClampNeg = c)
      · rw [if_pos qe, if_neg (show ¬ ((1 : Int32) = 0) by decide), e_other12 hL hI h0 (by omega), Option.bind_some] at h
        obtain ⟨r14, e14, i14, F14, h14'⟩ := zct (gdel X v5) (otE m v5 c) s (gdel.b v5 hX) (otE.c hL hI hJ hC h0 (by omega)) (by rw [w3]; exact gdel_lt2 h0 (by omega) hs) hJ hC
        unfold gdel at e14
        rw [e14, Option.bind_some] at h
        have hz : r14.1.toInt ≠ 0 ↔ tGE s0 (gdel X v5) (otE m v5 c) := by
          rw [h14', ← hGE]
          constructor
          · rintro (z | z)
            · rw [z]; exact tGE_0 s _
            · exact z
          · exact Or.inr
        have G14 : Fr [(94, 999)] s0 r14.2 := Fr.trans G F14 rfl
        by_cases q14 : r14.1 = 0
        · have q14' : r14.1.toInt = 0 := by rw [q14]; exact l0
          rw [if_pos q14] at h
          exact nxt r14.2 G14 i14 (by omega) (fun z => (hz.mpr z.2.2) q14') h
        · have q14' : r14.1.toInt ≠ 0 := fun z => q14 (eqI.mpr (by rw [z]; exact l0.symm))
          rw [if_neg q14] at h
          have e721 : (r14.2.1 72 1).toInt = (s0.1 72 1).toInt := congrArg Int32.toInt (G14 72 1 rfl)
          obtain ⟨m16, e16, h16a, i16, F16⟩ := zX12_enters v5 r14.2 (by omega) i14
          rw [e16, Option.bind_some] at h
          have G16 : Fr [(72, 1), (73, 999), (94, 999)] s0 m16 := Fr.trans (Fr.sub G14 rfl) F16 rfl
          have hL16 : XL m m16 := hL0.fr (W := []) Fr.refl G16 rfl
          rw [e_mins12 hL16 hI h0 (by omega), Option.bind_some, e_other12 hL16 hI h0 (by omega), Option.bind_some] at h
          exact ⟨v5, m16, h0, by omega, ⟨hX5, qe, hz.mp q14'⟩, hb, G16, i16, by omega, h⟩
      · rw [if_neg qe, if_pos rfl] at h
        exact nxt s G hJ (by omega) (fun z => qe z.2.1) h
    · have hX5 : bt X v5.toNatClampNeg = false := by
        cases hb2 : bt X v5.toNatClampNeg with
        | false => rfl
        | true => exact absurd (hh.mpr hb2) q
      rw [if_neg q, Option.bind_some, if_pos rfl] at h
      by_cases q13 : v5.toInt < 14
      · exact nxt s G hJ q13 (fun z => by rw [z.1] at hX5; cases hX5) h
      · obtain ⟨k, k1, k2, k3⟩ := hex
        exact absurd k3 (hb k k1 (by omega))
theorem ex_next {m s : sm_S} (hL : XL m s) (hI : zI m) (hJ : zI s) (hC : zC s) {X c : Int32} (hc : gC s c) (hs : ∀ i, i < 32 → bt X i = true → i < nH s) (hG : tGE s X c) (hX : X ≠ 0) : ∃ h : Int32, 0 ≤ h.toInt ∧ h.toInt < (m.1 3 1).toInt ∧ nxP m s X c h := by
  have e31 := hL.hedge
  have c31 : 0 ≤ (m.1 3 1).toInt ∧ (m.1 3 1).toInt ≤ 14 := hI.1 3 1
  obtain ⟨eH, eC, bH, bC⟩ := t_n hJ
  have hc' := hc
  unfold gC at hc'
  have et := a_tn hc'.1
  have hne : ∃ k, k < nH s ∧ bt X k = true := by
    refine Classical.byContradiction (fun hn => hX (b_ext (fun i hi => ?_)))
    rw [b_0]
    cases hb : bt X i with
    | false => rfl
    | true => exact absurd ⟨i, hs i hi hb, hb⟩ hn
  obtain ⟨h, h1, h2, h3, h4⟩ := fleury (a := ta s) (b := tb s) (n := nH s) (S := bt X) (c := c.toNatClampNeg) (N := nC s) (fun k hk _ => by have := t_ends hJ hC hk; exact ⟨this.2.2.1, this.2.2.2.1⟩) (by omega) (fun k hk _ => (t_ends hJ hC hk).2.2.2.2) hG hne
  have en : (nI h).toInt = (h : Int) := nI_toInt (by omega)
  have ent : (nI h).toNatClampNeg = h := by
    have := a_tn (x := nI h) (by omega)
    omega
  obtain ⟨a1, b1, a2, b2, ab⟩ := t_ends hJ hC h1
  have h0' : 0 ≤ (nI h).toInt := by omega
  have h1' : (nI h).toInt < (m.1 3 1).toInt := by omega
  obtain ⟨q1, q2, -⟩ := hL.row h0' h1'
  have hgH : gH s (nI h) := ⟨h0', by omega⟩
  obtain ⟨-, e, ee, ec, eo⟩ := zen (m := s) (v5 := nI h) (v3 := c) hJ hC hgH hc
  rw [e_other12 hL hI h0' h1'] at ee
  obtain rfl := Option.some.inj ee
  rw [ent] at eo
  have hor : ta s h = c.toNatClampNeg ∨ tb s h = c.toNatClampNeg := h3
  refine ⟨nI h, h0', h1', by rw [ent]; exact h2, ?_, ?_⟩
  · rw [q1, q2, ent]
    have ea : ta s h = (s.1 76 h).toNatClampNeg := rfl
    have eb : tb s h = (s.1 77 h).toNatClampNeg := rfl
    rcases hor with z | z
    · exact Or.inl (eqI.mpr (by omega))
    · exact Or.inr (eqI.mpr (by omega))
  · unfold tGE
    rw [bt_del h0' (by omega), ent, eo hor]
    exact h4
theorem v_trail (b : Int32 × sm_S) : ∀ (n : Nat) (X c v6 v7 : Int32) (m s : sm_S), XL m s → zI m → zI s → zC s → 0 ≤ X.toInt ∧ X.toInt ≤ 16383 → gC s c → (∀ i, i < 32 → bt X i = true → i < nH s) → tGE s X c → 0 ≤ v7.toInt → v7.toInt + ((p14 X : Nat) : Int) = (m.1 3 1).toInt → (s.1 72 1).toInt ≤ v7.toInt → fX12_trail_42 n X c v6 s = some b → Sf (fun a => a.1 = b.1) (fX4_leastTrail_19 n X c v6 v7 m) := by
  have l0 := L0
  have l1 := L1
  have hfu := fuE
  intro n
  induction n with
  | zero => intro X c v6 v7 m s hL hI hJ hC hX hc hs hG h0 h7 hr h; cases h
  | succ n ih =>
    intro X c v6 v7 m s hL hI hJ hC hX hc hs hG h0 h7 hr h
    have c31 : 0 ≤ (m.1 3 1).toInt ∧ (m.1 3 1).toInt ≤ 14 := hI.1 3 1
    have e31 := hL.hedge
    obtain ⟨eH, eC, bH, bC⟩ := t_n hJ
    unfold fX12_trail_42 at h
    unfold fX4_leastTrail_19
    by_cases qX : X = 0
    · rw [if_pos qX] at h
      obtain rfl := Option.some.inj h
      refine s_le (fun _ => s_ret rfl) (fun g => ?_)
      have : p14 X = 0 := by rw [qX]; exact cnt_z (fun w _ => b_0 w)
      omega
    · rw [if_neg qX] at h
      have hp : p14 X ≠ 0 := fun z => qX (p14_0 (fun i hi hb => by have := hs i hi hb; omega) z)
      have hex := ex_next hL hI hJ hC hc hs hG qX
      obtain ⟨h', s', k1, k2, k3, k4, G', j', k5, k6⟩ := v_49 m hI (fX12_trail_42 n) X c v6 hX b s hL hJ hC hs (by omega) hex sm_fu (0 : Int32) s Fr.refl hJ (by omega) (by omega) (fun k ha hb => by omega) h
      refine s_le (fun g => by omega) (fun g => ?_)
      unfold fX4_leastStep
      refine s_bd (v_step hL hI hJ hC hX sm_fu (0 : Int32) (by omega) (by omega) (by omega) (fun k ha hb => by omega)) (fun r6 h6 => ?_)
      have e6 : r6 = h' := by
        rcases h6 with ⟨-, h6⟩ | ⟨r1, r2, r3, r4⟩
        · exact absurd k3 (h6 h' k1 k2)
        · refine eqI.mpr ?_
          rcases Int.lt_trichotomy r6.toInt h'.toInt with z | z | z
          · exact absurd r3 (k4 r6 r1 z)
          · exact z
          · exact absurd k3 (r4 h' k1 z)
      subst e6
      refine s_le (fun _ => ?_) (fun z => by omega)
      refine s_bd (zX5_add r6 m hI) (fun m8 h8 => ?_)
      obtain ⟨-, i8, F8⟩ := h8
      have hh : 0 ≤ r6.toInt ∧ r6.toInt < ((14 : Nat) : Int) := by omega
      rw [e_mins11 hh, Option.bind_some, e_other11 hh, Option.bind_some]
      have em : mnF m8 r6 c = mnF m r6 c := by
        unfold mnF
        rw [F8 6 _ rfl, F8 8 _ rfl, F8 12 _ rfl]
      have eo : otE m8 r6 c = otE m r6 c := by
        unfold otE
        rw [F8 6 _ rfl, F8 7 _ rfl]
      rw [em, eo]
      have hL' : XL m8 s' := hL.fr F8 G' rfl
      have hC' : zC s' := hC.fr G' rfl
      obtain ⟨w1, w2, w3⟩ := t_same (m := s) (m' := s') (fun j => G' 76 j rfl) (fun j => G' 77 j rfl) (G' 72 6 rfl)
      have hc' : gC s' (otE m r6 c) := by
        have := otE.c (c := c) hL hI hJ hC k1 k2
        unfold gC at this ⊢
        rw [G' 72 3 rfl]; exact this
      have e7 : (v7 + (1 : Int32)).toInt = v7.toInt + 1 := a_addl L1 (by omega) (by omega)
      have hpd := p14_del (X := X) k1 (show r6.toInt < 14 by omega) k3.1
      have f31 : (m8.1 3 1).toInt = (m.1 3 1).toInt := congrArg Int32.toInt (F8 3 1 rfl)
      refine ih (gdel X r6) (otE m r6 c) (v6 + mnF m r6 c) (v7 + (1 : Int32)) m8 s' hL' i8 j' hC' (gdel.b r6 hX) hc' ?_ ?_ (by omega) (by omega) (by omega) k6
      · rw [w3]; exact gdel_lt2 k1 (by omega) hs
      · have := k3.2.2
        unfold tGE at this ⊢
        rw [w1, w2, w3]; exact this
theorem tq_trail {x1 : Int32} {m s : sm_S} (hR : RX m s) (hI : zI m) (hJ : zI s) (hC : zC s) : TR (fun a b => a.1 = b.1) (fX11_trail x1 m) (fX12_trail x1 s) := by
  have l0 := L0
  have hfu := fuE
  have hL := hR.2.1
  have c31 : 0 ≤ (m.1 3 1).toInt ∧ (m.1 3 1).toInt ≤ 14 := hI.1 3 1
  have e31 := hL.hedge
  have e30 := hL.corner
  obtain ⟨eH, eC, bH, bC⟩ := t_n hJ
  obtain ⟨b, eb, -, -⟩ := zX12_trail x1 s hJ hC
  have eb2 := eb
  rw [eb]
  have i0 : zI (sm_w1 s 72 0 (0 : Int32)) := zI.w hJ rfl (show 0 ≤ (0 : Int32).toInt ∧ (0 : Int32).toInt ≤ 1 by omega)
  have hC0 : zC (sm_w1 s 72 0 (0 : Int32)) := hC
  have hL0 : XL m (sm_w1 s 72 0 (0 : Int32)) := hL
  unfold fX12_trail at eb2
  obtain ⟨q2, e2, -, -, h2⟩ := zX12_isCorner x1 _ i0
  rw [e2, Option.bind_some] at eb2
  have s3 : ((sm_w1 s 72 0 (0 : Int32)).1 72 3).toInt = (s.1 72 3).toInt := rfl
  unfold fX11_trail
  refine tl_bd (zX2_hasCorner x1 m hI) (fun p2 hp2 => ?_)
  obtain ⟨-, -, hp2⟩ := hp2
  refine tl_eq (fun g => ?_) (fun g => ?_)
  · rw [if_pos (eqI.mpr (show q2.toInt = (0 : Int32).toInt by omega))] at eb2
    obtain rfl := Option.some.inj eb2
    exact t_ret rfl
  · rw [if_neg (fun z => by have := eqI.mp z; omega)] at eb2
    have hb := all_b c31.1 c31.2
    have hbits : ∀ i, i < 32 → bt (((1 : Int32) <<< ((m.1 3 1) &&& 31)) - (1 : Int32)) i = true → i < nH s := by
      intro i hi hbb
      rw [b_all c31.1 (by omega) hi] at hbb
      have := of_decide_eq_true hbb
      omega
    have hpop : ((p14 (((1 : Int32) <<< ((m.1 3 1) &&& 31)) - (1 : Int32)) : Nat) : Int) = (m.1 3 1).toInt := by
      have key : ∀ n, n < 15 → p14 (((1 : Int32) <<< ((nI n) &&& 31)) - (1 : Int32)) = n := by decide +kernel
      have e := a_tn c31.1
      have h := key (m.1 3 1).toNatClampNeg (by omega)
      rw [← a_nI c31.1] at h
      rw [h]; omega
    obtain ⟨X, hXe⟩ : ∃ X : Int32, X = (((1 : Int32) <<< ((m.1 3 1) &&& 31)) - (1 : Int32)) := ⟨_, rfl⟩
    rw [← hXe] at hb hbits hpop
    have eA : ∀ m' : sm_S, m'.1 3 1 = m.1 3 1 → fX2_everyHedge m' = some X := by
      intro m' h
      unfold fX2_everyHedge
      rw [h, hXe]
    have eB : fX12_allHedges (sm_w1 s 72 0 (0 : Int32)) = some X := by
      have es : (sm_w1 s 72 0 (0 : Int32)).1 72 6 = m.1 3 1 := hL.1.2.1.symm
      unfold fX12_allHedges
      rw [es, hXe]
    rw [eB, Option.bind_some] at eb2
    rw [eA m rfl, Option.bind_some]
    have hgc : gC (sm_w1 s 72 0 (0 : Int32)) x1 := ⟨by omega, by omega⟩
    obtain ⟨r6, e6, i6, F6, h6⟩ := zct X x1 (sm_w1 s 72 0 (0 : Int32)) hb hgc hbits i0 hC0
    rw [e6, Option.bind_some] at eb2
    refine tl_bd (s_isTrail hL0 hI i0 hC0 hgc hb) (fun t ht => ?_)
    have heq : t.toInt ≠ 0 ↔ r6.1.toInt ≠ 0 := by
      rw [ht, h6]
      constructor
      · exact Or.inr
      · rintro (z | z)
        · rw [z]; exact tGE_0 _ _
        · exact z
    refine tl_eq (fun g2 => ?_) (fun g2 => ?_)
    · have : r6.1.toInt = 0 := by
        by_cases z : r6.1.toInt = 0
        · exact z
        · have := heq.mpr z; omega
      rw [if_pos (eqI.mpr (show r6.1.toInt = (0 : Int32).toInt by omega))] at eb2
      obtain rfl := Option.some.inj eb2
      exact t_ret rfl
    · have hne : r6.1.toInt ≠ 0 := heq.mp (by omega)
      rw [if_neg (fun z => hne (by rw [z]; exact l0))] at eb2
      have i61 : zI (sm_w1 r6.2 72 1 (0 : Int32)) := zI.w i6 rfl (show 0 ≤ (0 : Int32).toInt ∧ (0 : Int32).toInt ≤ 24 by omega)
      have G1 : Fr [(72, 0), (72, 1), (94, 999)] s (sm_w1 s 72 0 (0 : Int32)) := Fr.w Fr.refl rfl
      have G6 : Fr [(72, 0), (72, 1), (94, 999)] s (sm_w1 r6.2 72 1 (0 : Int32)) := Fr.w (Fr.trans G1 F6 rfl) rfl
      have F14 : Fr [(14, 1)] m (sm_w1 m 14 1 (0 : Int32)) := Fr.w Fr.refl rfl
      have i14 : zI (sm_w1 m 14 1 (0 : Int32)) := zI.w hI rfl (show 0 ≤ (0 : Int32).toInt ∧ (0 : Int32).toInt ≤ 14 by omega)
      have hG : tGE (sm_w1 s 72 0 (0 : Int32)) X x1 := ht.mp (by omega)
      obtain ⟨w1, w2, w3⟩ := t_same (m := s) (m' := sm_w1 r6.2 72 1 (0 : Int32)) (fun j => G6 76 j rfl) (fun j => G6 77 j rfl) (G6 72 6 rfl)
      unfold fX4_leastTrail fX5_clear
      rw [Option.bind_some, eA (sm_w1 m 14 1 (0 : Int32)) rfl, Option.bind_some]
      refine tl_bd (v_trail b sm_fu X x1 (0 : Int32) (0 : Int32) (sm_w1 m 14 1 (0 : Int32)) (sm_w1 r6.2 72 1 (0 : Int32)) (hL.fr F14 G6 rfl) i14 i61 (hC.fr G6 rfl) hb ?_ ?_ ?_ (by omega) ?_ (show (0 : Int32).toInt ≤ (0 : Int32).toInt by omega) eb2) (fun a ha => t_ret ha)
      · refine ⟨by omega, ?_⟩
        rw [G6 72 3 rfl]; omega
      · rw [w3]; exact hbits
      · unfold tGE at hG ⊢
        rw [w1, w2, w3]; exact hG
      · show (0 : Int32).toInt + ((p14 X : Nat) : Int) = (m.1 3 1).toInt
        omega
