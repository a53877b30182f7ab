/-! WHETHER ALL HEDGES HANG TOGETHER, in both -/
def HTv (s : sm_S) (A : Int32) : Prop := ∀ h : Nat, h < nH s → cn (ta s) (tb s) (nH s) (bt A) (ta s 0) (ta s h)
theorem th_hang11 {m s : sm_S} (hL : XL m s) (hI : zI m) (hJ : zI s) (hC : zC s) : Sf (fun r => (r.toInt = 1 ∧ HTv s (((1 : Int32) <<< ((m.1 3 1) &&& 31)) - (1 : Int32))) ∨ (r.toInt = 0 ∧ ¬ HTv s (((1 : Int32) <<< ((m.1 3 1) &&& 31)) - (1 : Int32)))) (fX2_hangsTogether m) := by
  have l0 := L0
  have l1 := L1
  have hfu := fuE
  have z0 : (0 : Int32).toNatClampNeg = 0 := by decide
  have c31 : 0 ≤ (m.1 3 1).toInt ∧ (m.1 3 1).toInt ≤ 14 := hI.1 3 1
  have e31 := hL.hedge
  obtain ⟨eH, eC, bH, bC⟩ := t_n hJ
  unfold fX2_hangsTogether fX2_everyHedge fX2_holdsAll
  refine s_eq (fun g => s_ret (Or.inl ⟨l1, fun h hh => by omega⟩)) (fun g => ?_)
  obtain ⟨a1, b1, a2, b2, ab⟩ := t_ends hJ hC (h := 0) (by omega)
  have q1 := (hL.row (x := (0 : Int32)) (by omega) (by omega)).1
  rw [z0] at q1
  have e60 : (m.1 6 0).toNatClampNeg = ta s 0 := by rw [q1]; rfl
  have ha : ∀ h : Nat, h < nH s → bt (((1 : Int32) <<< ((m.1 3 1) &&& 31)) - (1 : Int32)) h = true := fun h hh => by
    rw [b_all c31.1 (by omega) (by omega)]; exact decide_eq_true (by omega)
  generalize (((1 : Int32) <<< ((m.1 3 1) &&& 31)) - (1 : Int32)) = A at ha ⊢
  rw [Option.bind_some]
  refine s_bd (s_hang hL hI hJ hC A (c := m.1 6 0) (by rw [q1]; omega)) (fun F hF => ?_)
  rw [e60] at hF
  rw [Option.bind_some]
  have key : (∀ h : Nat, h < nH s → bt A h = true → bt F (ta s h) = true) ↔ HTv s A := by
    constructor
    · intro z h hh
      obtain ⟨-, -, y, -⟩ := t_ends hJ hC hh
      exact (hF _ (by omega)).mp (z h hh (ha h hh))
    · intro z h hh _
      obtain ⟨-, -, y, -⟩ := t_ends hJ hC hh
      exact (hF _ (by omega)).mpr (z h hh)
  refine s_bd (v_holds m s hL hI hJ hC F A sm_fu (0 : Int32) (by omega) (by omega) (by omega) (fun h hh => by omega)) (fun r8 h8 => ?_)
  refine s_eq (fun g2 => s_ret (Or.inr ⟨l0, fun z => ?_⟩)) (fun g2 => s_ret (Or.inl ⟨l1, ?_⟩))
  · rcases h8 with ⟨h8, -⟩ | ⟨-, h8⟩
    · omega
    · exact h8 (key.mpr z)
  · rcases h8 with ⟨-, h8⟩ | ⟨h8, -⟩
    · exact key.mp h8
    · omega
theorem v_hang12 (m : sm_S) (hI : zI m) (hC : zC m) : ∀ (n : Nat) (v1 v2 : Int32), 1 ≤ v2.toInt → v2.toInt ≤ 14 → 14 - v2.toInt < (n : Int) → ((v1.toInt = 1 ∧ ∀ h : Nat, (h : Int) < v2.toInt → h < nH m → tl m (ta m h) = tl m (ta m 0)) ∨ (v1.toInt = 0 ∧ ¬ ∀ h : Nat, h < nH m → tl m (ta m h) = tl m (ta m 0))) → Sf (fun r => (r.1.toInt = 1 ∧ ∀ h : Nat, h < nH m → tl m (ta m h) = tl m (ta m 0)) ∨ (r.1.toInt = 0 ∧ ¬ ∀ h : Nat, h < nH m → tl m (ta m h) = tl m (ta m 0))) (fX12_hangTogether_12 n v1 v2 m) := by
  have l0 := L0
  have l1 := L1
  obtain ⟨eH, eC, bH, bC⟩ := t_n hI
  intro n
  induction n with
  | zero => intro v1 v2 h1 h2 hn; have hz : ((0 : Nat) : Int) = 0 := rfl; omega
  | succ n ih =>
    intro v1 v2 h1 h2 hn hP
    have hnn : ((n + 1 : Nat) : Int) = (n : Int) + 1 := by omega
    have et := a_tn (x := v2) (by omega)
    unfold fX12_hangTogether_12
    refine s_le (fun g => ?_) (fun g => ?_)
    · refine s_nb (show (v1).toInt = 0 ∨ (v1).toInt = 1 by rcases hP with ⟨z, -⟩ | ⟨z, -⟩ <;> omega) ?_
      exact s_ret (hP.imp (fun z => ⟨z.1, fun h hh => z.2 h (by omega) hh⟩) id)
    · have e2 : (v2 + (1 : Int32)).toInt = v2.toInt + 1 := a_addl L1 (by omega) (by omega)
      refine s_eq (fun g1 => ?_) (fun g1 => ?_)
      · rcases hP with ⟨z, -⟩ | ⟨-, z⟩
        · omega
        · exact ih (0 : Int32) (v2 + (1 : Int32)) (by omega) (by omega) (by omega) (Or.inr ⟨l0, z⟩)
      · rcases hP with ⟨-, z⟩ | ⟨z, -⟩
        · obtain ⟨a1, b1, a2, b2, ab⟩ := t_ends hI hC (h := v2.toNatClampNeg) (by omega)
          obtain ⟨a1', b1', a2', b2', ab'⟩ := t_ends hI hC (h := 0) (by omega)
          refine s_ix (by omega) (s_ix (by omega) (s_ix (by omega) ?_))
          refine s_eq (fun g3 => ?_) (fun g3 => ?_)
          · refine ih (1 : Int32) (v2 + (1 : Int32)) (by omega) (by omega) (by omega) (Or.inl ⟨l1, fun h hh hh2 => ?_⟩)
            by_cases q : h = v2.toNatClampNeg
            · subst q; exact g3
            · exact z h (by omega) hh2
          · exact ih (0 : Int32) (v2 + (1 : Int32)) (by omega) (by omega) (by omega) (Or.inr ⟨l0, fun y => g3 (y v2.toNatClampNeg (by omega))⟩)
        · omega
theorem th_hang12 {s : sm_S} (hJ : zI s) (hC : zC s) : Sf (fun r => ((r.1.toInt = 1 ∧ HTv s (((1 : Int32) <<< ((s.1 72 6) &&& 31)) - (1 : Int32))) ∨ (r.1.toInt = 0 ∧ ¬ HTv s (((1 : Int32) <<< ((s.1 72 6) &&& 31)) - (1 : Int32)))) ∧ zI r.2 ∧ Fr [(94, 999)] s r.2) (fX12_hangTogether s) := by
  have l0 := L0
  have l1 := L1
  have hfu := fuE
  have cH : 0 ≤ (s.1 72 6).toInt ∧ (s.1 72 6).toInt ≤ 14 := hJ.1 72 6
  obtain ⟨eH, eC, bH, bC⟩ := t_n hJ
  obtain ⟨r, er, -, jr, F'⟩ := zX12_hangTogether s hJ
  have key : Sf (fun r => (r.1.toInt = 1 ∧ HTv s (((1 : Int32) <<< ((s.1 72 6) &&& 31)) - (1 : Int32))) ∨ (r.1.toInt = 0 ∧ ¬ HTv s (((1 : Int32) <<< ((s.1 72 6) &&& 31)) - (1 : Int32)))) (fX12_hangTogether s) := by
    unfold fX12_hangTogether fX12_allHedges
    rw [Option.bind_some]
    have hA := all_b cH.1 cH.2
    generalize (((1 : Int32) <<< ((s.1 72 6) &&& 31)) - (1 : Int32)) = A at hA ⊢
    refine s_bd (zpt A s hA hJ hC) (fun m4 h4 => ?_)
    obtain ⟨j4, F4, p4⟩ := h4
    obtain ⟨w1, w2, w3, w4⟩ := t_same2 (m := s) (m' := m4) (Fr.sub F4 rfl)
    have hC4 : zC m4 := hC.fr F4 rfl
    have heq : (∀ h : Nat, h < nH m4 → tl m4 (ta m4 h) = tl m4 (ta m4 0)) ↔ HTv s A := by
      unfold HTv
      have hp : ∀ h : Nat, h < nH s → (tl m4 (ta m4 h) = tl m4 (ta m4 0) ↔ cn (ta s) (tb s) (nH s) (bt A) (ta s 0) (ta s h)) := fun h hh => by
        obtain ⟨-, -, y1, -⟩ := t_ends hJ hC hh
        obtain ⟨-, -, y2, -⟩ := t_ends hJ hC (h := 0) (by omega)
        have := p4 (ta m4 h) (ta m4 0) (by rw [w1, w4]; exact y1) (by rw [w1, w4]; exact y2)
        rw [this]
        unfold tcn
        rw [w1, w2, w3]
        exact ⟨cn.symm, cn.symm⟩
      rw [w3]
      exact ⟨fun z h hh => (hp h hh).mp (z h hh), fun z h hh => (hp h hh).mpr (z h hh)⟩
    refine s_mono (v_hang12 m4 j4 hC4 sm_fu (1 : Int32) (1 : Int32) (by omega) (by omega) (by omega) (Or.inl ⟨l1, fun h hh _ => by rw [show h = 0 by omega]⟩)) (fun r hr => ?_)
    rw [heq] at hr
    exact hr
  obtain ⟨r', er', k1⟩ := key
  obtain rfl := Option.some.inj (er.symm.trans er')
  exact ⟨r, er, k1, jr, Fr.sub F' rfl⟩
