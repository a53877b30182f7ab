/-! SURE on the fresh state: 4096 lands on each side -/
theorem t_or4095 : ∀ k, k < 4096 → (Int32.ofNat k ||| 4095 = 4095 ∧ Int32.ofNat (k + 1) + (-1) = Int32.ofNat k ∧ sm_ix (Int32.ofNat k >>> ((6 : Int32) &&& 31)) 64 ∧ ¬ Int32.ofNat k < 0 ∧ Int32.ofNat k + 1 = Int32.ofNat (k + 1) ∧ ¬ (4096 : Int32) ≤ Int32.ofNat k) := by
  have h : (List.range 4096).all (fun k => decide (Int32.ofNat k ||| 4095 = 4095 ∧ Int32.ofNat (k + 1) + (-1) = Int32.ofNat k ∧ sm_ix (Int32.ofNat k >>> ((6 : Int32) &&& 31)) 64 ∧ ¬ Int32.ofNat k < 0 ∧ Int32.ofNat k + 1 = Int32.ofNat (k + 1) ∧ ¬ (4096 : Int32) ≤ Int32.ofNat k)) = true := by decide +kernel
  intro k hk
  exact of_decide_eq_true (List.all_eq_true.mp h k (List.mem_range.mpr hk))
def p_sg (x : Int64) : Prop := x.toBitVec.getLsbD 63 = true
theorem p_sg_or {x y : Int64} (h : p_sg x) : p_sg (x ||| y) := by
  unfold p_sg at h ⊢
  rw [Int64.toBitVec_or, BitVec.getLsbD_or, h]; rfl
theorem p_sg_or' {x y : Int64} (h : p_sg y) : p_sg (x ||| y) := by
  unfold p_sg at h ⊢
  rw [Int64.toBitVec_or, BitVec.getLsbD_or, h, Bool.or_true]
def p_J (k : Nat) (m : sm_S) : Prop := (k < 4096 → m.1 51 1 = Int32.ofNat k ∧ p_sg (m.2 52 63)) ∧ ∀ c j : Nat, ¬ (c = 51 ∧ j = 1) → m.1 c j = sm_g0 c j
theorem p_w1 {m : sm_S} {a k c j : Nat} {v : Int32} (h : ¬ (c = a ∧ j = k)) : (sm_w1 m a k v).1 c j = m.1 c j := by
  show cond (Nat.beq c a) (cond (Nat.beq j k) v (m.1 c j)) (m.1 c j) = m.1 c j
  cases hb : Nat.beq c a with
  | false => rfl
  | true =>
    cases hd : Nat.beq j k with
    | false => rfl
    | true => exact absurd ⟨Nat.eq_of_beq_eq_true hb, Nat.eq_of_beq_eq_true hd⟩ h
theorem p_fw27 : ∀ (k n : Nat) (v2 : Int32) (m : sm_S), k ≤ 4096 → k < n → p_J k m → ∃ r, fX0_findWays_27 n v2 (Int32.ofNat k + (-1)) m = some r ∧ p_J 0 r.2 := by
  intro k
  induction k with
  | zero =>
    intro n v2 m _ hn hJ
    obtain ⟨n, rfl⟩ : ∃ q, n = q + 1 := ⟨n - 1, by omega⟩
    refine ⟨(v2, m), ?_, hJ⟩
    rw [fX0_findWays_27.eq_2]
    exact if_pos (by decide)
  | succ k ih =>
    intro n v2 m hk hn hJ
    obtain ⟨n, rfl⟩ : ∃ q, n = q + 1 := ⟨n - 1, by omega⟩
    obtain ⟨-, t2, t3, t4, -, -⟩ := t_or4095 k (by omega)
    have h0 : m.1 51 0 = 0 := hJ.2 51 0 (by omega)
    have e1 : fX0_all m = some 0 := by unfold fX0_all; rw [h0]; rfl
    have e2 : fX0_allHold (Int32.ofNat k) 0 m = some 1 := by
      show fX0_allHold_3 sm_fu (Int32.ofNat k) 0 0 m = some 1
      show fX0_allHold_3 (199999 + 1) (Int32.ofNat k) 0 0 m = some 1
      rw [fX0_allHold_3.eq_2, h0]
      exact if_pos (by decide)
    rw [fX0_findWays_27.eq_2, t2, if_neg t4, e1]
    show ∃ r, ((fX0_allHold (Int32.ofNat k) 0 m).bind _) = some r ∧ _
    rw [e2]
    show ∃ r, (if sm_ix (Int32.ofNat k >>> ((6 : Int32) &&& 31)) 64 then _ else none) = some r ∧ _
    rw [if_pos t3, if_pos t3]
    refine ih n _ _ (by omega) (by omega) ⟨fun hk4 => ⟨rfl, ?_⟩, fun c j hcj => ?_⟩
    · show p_sg (cond (Nat.beq 52 52) (cond (Nat.beq 63 _) _ (m.2 52 63)) (m.2 52 63))
      rw [Nat.beq_refl]
      show p_sg (cond (Nat.beq 63 _) _ (m.2 52 63))
      cases hb : Nat.beq 63 (Int32.ofNat k >>> ((6 : Int32) &&& 31)).toNatClampNeg with
      | false =>
        show p_sg (m.2 52 63)
        by_cases h5 : k + 1 < 4096
        · exact (hJ.1 h5).2
        · have : k = 4095 := by omega
          subst this
          exact absurd hb (by decide)
      | true =>
        show p_sg (_ ||| _)
        by_cases h5 : k + 1 < 4096
        · have e5 := Nat.eq_of_beq_eq_true hb
          rw [← e5]
          exact p_sg_or (hJ.1 h5).2
        · have : k = 4095 := by omega
          subst this
          exact p_sg_or' (by unfold p_sg; decide)
    · rw [p_w1 hcj]
      exact hJ.2 c j hcj
theorem p_cmp0 {a b : Int64} (h : lg_cmp a b = 0) : a = b := by
  unfold lg_cmp at h
  split at h
  · cases h
  · split at h
    · assumption
    · cases h
theorem p_found {m : sm_S} (h : p_sg (m.2 52 63)) : fX0_isFound 4095 m = some 1 := by
  unfold fX0_isFound
  rw [if_pos (by decide)]
  refine if_neg fun q => ?_
  have q1 := p_cmp0 q
  have q2 : ((((m.2 52 63) >>> (63 : Int64)) &&& (1 : Int64)).toBitVec).getLsbD 0 = false := by
    have q3 : ((m.2 52 63) >>> (63 : Int64)) &&& (1 : Int64) = 0 := q1
    rw [q3]; decide
  rw [Int64.toBitVec_and, BitVec.getLsbD_and, Int64.toBitVec_shiftRight] at q2
  have q4 : (BitVec.sshiftRight' (m.2 52 63).toBitVec (BitVec.smod (63 : Int64).toBitVec 64)).getLsbD 0 = (m.2 52 63).toBitVec.getLsbD 63 := by
    show (BitVec.sshiftRight (m.2 52 63).toBitVec 63).getLsbD 0 = _
    rw [BitVec.getLsbD_sshiftRight]
    rfl
  unfold p_sg at h
  rw [q4, h] at q2
  exact absurd q2 (by decide)
theorem p_found' (k : Nat) (hk : k < 4096) (m : sm_S) : fX0_isFound (Int32.ofNat k) m = some 0 ∨ fX0_isFound (Int32.ofNat k) m = some 1 := by
  unfold fX0_isFound
  rw [if_pos (t_or4095 k hk).2.2.1]
  by_cases h : (lg_cmp (((m.2 52 (Int32.ofNat k >>> ((6 : Int32) &&& 31)).toNatClampNeg) >>> (((Int32.ofNat k &&& (63 : Int32))).toInt64 &&& 63)) &&& (1 : Int64)) (0 : Int64)) = 0
  · exact Or.inl (if_pos h)
  · exact Or.inr (if_neg h)
theorem p_diff : ∀ (d k n : Nat) (v1 : Int32) (m : sm_S), k + d = 4096 → d < n → v1 ||| 4095 = 4095 → (k = 4096 → v1 = 4095) → m.1 51 1 = 0 → p_sg (m.2 52 63) → fX0_differences_4 n v1 (Int32.ofNat k) m = some 4095 := by
  intro d
  induction d with
  | zero =>
    intro k n v1 m hk hn h1 h2 h3 h4
    obtain ⟨n, rfl⟩ : ∃ q, n = q + 1 := ⟨n - 1, by omega⟩
    have hk' : k = 4096 := by omega
    subst hk'
    rw [fX0_differences_4.eq_2, if_pos (by decide), h2 rfl]
  | succ d ih =>
    intro k n v1 m hk hn h1 h2 h3 h4
    obtain ⟨n, rfl⟩ : ∃ q, n = q + 1 := ⟨n - 1, by omega⟩
    obtain ⟨t1, -, -, -, t5, t6⟩ := t_or4095 k (by omega)
    rw [fX0_differences_4.eq_2, if_neg t6]
    rcases p_found' k (by omega) m with hf | hf
    · rw [hf, Option.bind_some, if_pos rfl, t5]
      refine ih (k + 1) n v1 m (by omega) (by omega) h1 (fun hk4 => ?_) h3 h4
      have : k = 4095 := by omega
      subst this
      have := hf.symm.trans (p_found h4)
      exact absurd (Option.some.inj this) (by decide)
    · rw [hf, Option.bind_some, if_neg (by decide), t5, h3, Int32.xor_zero]
      refine ih (k + 1) n _ m (by omega) (by omega) (by rw [Int32.or_assoc, t1, h1]) (fun hk4 => ?_) h3 h4
      have : k = 4095 := by omega
      subst this
      exact h1
theorem t_64 : ∀ k, k < 64 → (¬ (64 : Int32) ≤ Int32.ofNat k ∧ sm_ix (Int32.ofNat k) 64 ∧ Int32.ofNat k + 1 = Int32.ofNat (k + 1)) := by
  have h : (List.range 64).all (fun k => decide (¬ (64 : Int32) ≤ Int32.ofNat k ∧ sm_ix (Int32.ofNat k) 64 ∧ Int32.ofNat k + 1 = Int32.ofNat (k + 1))) = true := by decide +kernel
  intro k hk
  exact of_decide_eq_true (List.all_eq_true.mp h k (List.mem_range.mpr hk))
theorem p_fw2 (g : Nat → Nat → Int32) : ∀ (d k n : Nat) (m : sm_S), k + d = 64 → d < n → m.1 = g → ∃ m', fX0_findWays_2 n (Int32.ofNat k) m = fX0_findWays_27 sm_fu 0 4095 m' ∧ m'.1 = g := by
  intro d
  induction d with
  | zero =>
    intro k n m hk hn hm
    obtain ⟨n, rfl⟩ : ∃ q, n = q + 1 := ⟨n - 1, by omega⟩
    have hk' : k = 64 := by omega
    subst hk'
    refine ⟨m, ?_, hm⟩
    rw [fX0_findWays_2.eq_2]
    exact if_pos (by decide)
  | succ d ih =>
    intro k n m hk hn hm
    obtain ⟨n, rfl⟩ : ∃ q, n = q + 1 := ⟨n - 1, by omega⟩
    obtain ⟨t1, t2, t3⟩ := t_64 k (by omega)
    rw [fX0_findWays_2.eq_2, if_neg t1, if_pos t2, t3]
    exact ih (k + 1) n _ (by omega) (by omega) hm
theorem p_sure11 : ∃ m4 : sm_S, fX11_sure sm_n0 = some (0, m4) ∧ m4.1 72 51 = 0 := by
  have e0 : ∃ m : sm_S, fX0_findWays sm_n0 = fX0_findWays_27 sm_fu 0 4095 m ∧ m.1 = sm_g0 := p_fw2 sm_g0 64 0 sm_fu sm_n0 (by decide) (by unfold sm_fu; decide) rfl
  obtain ⟨m, e1, e2⟩ := e0
  have e3 : fX0_findWays_27 sm_fu 0 4095 m = fX0_findWays_27 sm_fu 0 (Int32.ofNat 4096 + (-1)) m := rfl
  obtain ⟨r, hr, hJ⟩ := p_fw27 4096 sm_fu 0 m (Nat.le_refl _) (by unfold sm_fu; decide) ⟨fun h => absurd h (by decide), fun c j _ => by rw [e2]⟩
  refine ⟨sm_w1 r.2 14 1 0, ?_, ?_⟩
  · unfold fX11_sure
    rw [e1, e3, hr]
    show (if r.1 = 0 then some ((0 : Int32), sm_w1 r.2 14 1 0) else (fX0_differences (sm_w1 r.2 14 1 0)).bind fun r6 => fX11_sure_38 sm_fu r6 0 0 (sm_w1 r.2 14 1 0)) = _
    by_cases h : r.1 = 0
    · exact if_pos h
    · rw [if_neg h]
      have hj := hJ.1 (by decide)
      have e4 : fX0_differences (sm_w1 r.2 14 1 0) = some 4095 := p_diff 4096 0 sm_fu 0 (sm_w1 r.2 14 1 0) (by decide) (by unfold sm_fu; decide) (by decide) (fun h => absurd h (by decide)) hj.1 hj.2
      rw [e4]
      rfl
  · exact hJ.2 72 51 (by omega)
def p_Q (v : Int32) : Prop := v ||| 63 = 63
theorem p_Q_or {v a : Int32} (h1 : p_Q v) (h2 : p_Q a) : p_Q (v ||| a) := by
  unfold p_Q at h1 h2 ⊢
  rw [Int32.or_assoc, h2, h1]
theorem p_s42 (k11 : Int32 → Int32 → Int32 → sm_S → Option (Int32 × sm_S)) (n : Nat) (v1 v2 v3 v4 : Int32) (m : sm_S) (h4 : ¬ (6 : Int32) ≤ v4) (hq : p_Q ((1 : Int32) <<< (v4 &&& 31))) (h2 : p_Q v2) : ∃ v2', p_Q v2' ∧ fX12_sure_42 k11 (n + 1) v1 v2 v3 v4 m = fX12_sure_42 k11 n v1 v2' v3 (v4 + 1) m := by
  rw [fX12_sure_42.eq_2, if_neg h4]
  show ∃ v2', p_Q v2' ∧ (if _ = _ then _ else _) = _
  by_cases h : ((v3 >>> (((2 : Int32) * ((5 : Int32) - v4)) &&& 31)) &&& (3 : Int32)) = ((v1 >>> (((2 : Int32) * ((5 : Int32) - v4)) &&& 31)) &&& (3 : Int32))
  · exact ⟨v2 ||| 0, p_Q_or h2 (by unfold p_Q; decide), if_pos h⟩
  · exact ⟨_, p_Q_or h2 hq, if_neg h⟩
theorem p_s42a (k11 : Int32 → Int32 → Int32 → sm_S → Option (Int32 × sm_S)) (v1 v2 v3 : Int32) (m : sm_S) (h2 : p_Q v2) : ∃ v2', p_Q v2' ∧ fX12_sure_42 k11 sm_fu v1 v2 v3 0 m = k11 v1 v2' (v3 + 1) m := by
  obtain ⟨w1, q1, e1⟩ := p_s42 k11 199999 v1 v2 v3 0 m (by decide) (by unfold p_Q; decide) h2
  obtain ⟨w2, q2, e2⟩ := p_s42 k11 199998 v1 w1 v3 (0 + 1) m (by decide) (by unfold p_Q; decide) q1
  obtain ⟨w3, q3, e3⟩ := p_s42 k11 199997 v1 w2 v3 (0 + 1 + 1) m (by decide) (by unfold p_Q; decide) q2
  obtain ⟨w4, q4, e4⟩ := p_s42 k11 199996 v1 w3 v3 (0 + 1 + 1 + 1) m (by decide) (by unfold p_Q; decide) q3
  obtain ⟨w5, q5, e5⟩ := p_s42 k11 199995 v1 w4 v3 (0 + 1 + 1 + 1 + 1) m (by decide) (by unfold p_Q; decide) q4
  obtain ⟨w6, q6, e6⟩ := p_s42 k11 199994 v1 w5 v3 (0 + 1 + 1 + 1 + 1 + 1) m (by decide) (by unfold p_Q; decide) q5
  refine ⟨w6, q6, ?_⟩
  show fX12_sure_42 k11 (199999 + 1) v1 v2 v3 0 m = _
  rw [e1]
  show fX12_sure_42 k11 (199998 + 1) v1 w1 v3 (0 + 1) m = _
  rw [e2]
  show fX12_sure_42 k11 (199997 + 1) v1 w2 v3 (0 + 1 + 1) m = _
  rw [e3]
  show fX12_sure_42 k11 (199996 + 1) v1 w3 v3 (0 + 1 + 1 + 1) m = _
  rw [e4]
  show fX12_sure_42 k11 (199995 + 1) v1 w4 v3 (0 + 1 + 1 + 1 + 1) m = _
  rw [e5]
  show fX12_sure_42 k11 (199994 + 1) v1 w5 v3 (0 + 1 + 1 + 1 + 1 + 1) m = _
  rw [e6]
  show fX12_sure_42 k11 (199993 + 1) v1 w6 v3 (0 + 1 + 1 + 1 + 1 + 1 + 1) m = _
  rw [fX12_sure_42.eq_2]
  exact if_pos (by decide)
theorem p_s42b (k11 : Int32 → Int32 → Int32 → sm_S → Option (Int32 × sm_S)) (v2 : Int32) (m : sm_S) (h2 : p_Q v2) : fX12_sure_42 k11 sm_fu 0 v2 (Int32.ofNat 4095) 0 m = k11 0 63 (Int32.ofNat 4095 + 1) m := by
  have e : fX12_sure_42 k11 sm_fu 0 v2 (Int32.ofNat 4095) 0 m = k11 0 ((((((v2 ||| 1) ||| 2) ||| 4) ||| 8) ||| 16) ||| 32) (Int32.ofNat 4095 + 1) m := rfl
  have e2 : ((((((v2 ||| 1) ||| 2) ||| 4) ||| 8) ||| 16) ||| 32) = (63 : Int32) := by
    rw [Int32.or_assoc, Int32.or_assoc, Int32.or_assoc, Int32.or_assoc, Int32.or_assoc]
    exact h2
  rw [e, e2]
theorem p_sure12 (m : sm_S) (hm : m.1 72 51 = 0) : ∀ (d k n : Nat) (v1 v2 : Int32), k + d = 4096 → d < n → (k = 0 ∧ v1 = -1 ∨ 0 < k ∧ v1 = 0) → p_Q v2 → (k = 4096 → v2 = 63) → ∃ q, fX12_sure_11 n v1 v2 (Int32.ofNat k) m = some q ∧ q.1 = 0 := by
  intro d
  induction d with
  | zero =>
    intro k n v1 v2 hk hn hv hQ h2
    obtain ⟨n, rfl⟩ : ∃ q, n = q + 1 := ⟨n - 1, by omega⟩
    have hk' : k = 4096 := by omega
    subst hk'
    obtain rfl : v1 = 0 := by rcases hv with h | h; exact absurd h.1 (by decide); exact h.2
    rw [h2 rfl]
    refine ⟨(0, sm_w1 m 72 1 0), ?_, rfl⟩
    rw [fX12_sure_11.eq_2]
    rfl
  | succ d ih =>
    intro k n v1 v2 hk hn hv hQ h2
    obtain ⟨n, rfl⟩ : ∃ q, n = q + 1 := ⟨n - 1, by omega⟩
    obtain ⟨-, -, -, -, t5, t6⟩ := t_or4095 k (by omega)
    have e1 : fX12_wrongOf (Int32.ofNat k) m = some 0 := by
      show fX12_wrongOf_4 (199999 + 1) (Int32.ofNat k) 0 0 m = some 0
      rw [fX12_wrongOf_4.eq_2, hm]
      exact if_pos (by decide)
    have key : ∃ q, fX12_sure_42 (fX12_sure_11 n) sm_fu 0 v2 (Int32.ofNat k) 0 m = some q ∧ q.1 = 0 := by
      by_cases h5 : k = 4095
      · subst h5
        rw [p_s42b _ v2 m hQ, t5]
        exact ih 4096 n 0 63 (by omega) (by omega) (Or.inr ⟨by omega, rfl⟩) (by unfold p_Q; decide) (fun _ => rfl)
      · obtain ⟨w, q, e⟩ := p_s42a (fX12_sure_11 n) 0 v2 (Int32.ofNat k) m hQ
        rw [e, t5]
        exact ih (k + 1) n 0 w (by omega) (by omega) (Or.inr ⟨by omega, rfl⟩) q (fun h => absurd h (by omega))
    rw [fX12_sure_11.eq_2, if_neg t6, e1]
    rcases hv with ⟨hk0, rfl⟩ | ⟨hk0, rfl⟩
    · subst hk0
      exact key
    · exact key
theorem o_sure : P2 (fX11_sure sm_n0) fX12_sure := by
  obtain ⟨m4, e1, e2⟩ := p_sure11
  obtain ⟨q, e3, e4⟩ := p_sure12 (sm_w1 m4 72 0 0) (by rw [p_w1 (by omega)]; exact e2) 4096 0 sm_fu (-1) 0 (by decide) (by unfold sm_fu; decide) (Or.inl ⟨rfl, rfl⟩) (by unfold p_Q; decide) (fun h => absurd h (by decide))
  exact ⟨(0, m4), q, e1, e3, e4.symm⟩
