/-! THE WAYS that all hearings hold for: how many (lands) -/
theorem r2_hit {m : sm_S} {a k : Nat} {v : Int64} : (sm_w2 m a k v).2 a k = v := by
  show sm_u m.2 a k v a k = v
  rw [sm_u_row]; exact if_pos rfl
theorem r2_place {m : sm_S} {a k j : Nat} {v : Int64} (h : j ≠ k) : (sm_w2 m a k v).2 a j = m.2 a j := by
  show sm_u m.2 a k v a j = m.2 a j
  rw [sm_u_row]; exact if_neg h
def bl (x : Int64) (i : Nat) : Bool := x.toBitVec.getLsbD i
theorem bl_or (x y : Int64) (i : Nat) : bl (x ||| y) i = (bl x i || bl y i) := by unfold bl; rw [Int64.toBitVec_or, BitVec.getLsbD_or]
theorem bl_0 (i : Nat) : bl 0 i = false := BitVec.getLsbD_zero
theorem bl_1 : ∀ i, i < 64 → bl 1 i = decide (i = 0) := by decide +kernel
theorem bl_sl : ∀ n, n < 64 → (((nI n).toInt64 &&& 63).toBitVec.smod 64).toNat = n := by decide +kernel
theorem bl_shl {n : Nat} (hn : n < 64) {i : Nat} (hi : i < 64) : bl ((1 : Int64) <<< ((nI n).toInt64 &&& 63)) i = decide (i = n) := by
  unfold bl
  rw [Int64.toBitVec_shiftLeft]
  show ((1 : Int64).toBitVec <<< (((nI n).toInt64 &&& 63).toBitVec.smod 64).toNat).getLsbD i = _
  rw [bl_sl n hn, BitVec.getLsbD_shiftLeft]
  have e1 := bl_1 (i - n) (by omega)
  unfold bl at e1
  rw [e1]
  rcases Nat.lt_or_ge i n with h | h
  · rw [decide_eq_false (show ¬ i = n by omega)]; simp [h]
  · have hd : decide (i - n = 0) = decide (i = n) := decide_eq_decide.mpr (by omega)
    rw [hd]
    simp [hi, Nat.not_lt.mpr h]
theorem bl_test {x : Int64} {n : Nat} (hn : n < 64) : ((x >>> ((nI n).toInt64 &&& 63)) &&& (1 : Int64)) = 0 ↔ bl x n = false := by
  have e : ∀ i, i < 64 → ((x >>> ((nI n).toInt64 &&& 63)) &&& (1 : Int64)).toBitVec.getLsbD i = (decide (i = 0) && bl x n) := by
    intro i hi
    rw [Int64.toBitVec_and, BitVec.getLsbD_and, Int64.toBitVec_shiftRight]
    show ((x.toBitVec.sshiftRight (((nI n).toInt64 &&& 63).toBitVec.smod 64).toNat).getLsbD i && (1 : Int64).toBitVec.getLsbD i) = _
    rw [bl_sl n hn]
    have e1 := bl_1 i hi
    unfold bl at e1
    rw [e1, BitVec.getLsbD_sshiftRight]
    by_cases q : i = 0
    · subst q
      have hn' : n + 0 < 64 := by omega
      simp [bl, hn]
    · rw [decide_eq_false q]; simp
  constructor
  · intro q
    have := e 0 (by decide)
    rw [q] at this
    have z : ((0 : Int64).toBitVec.getLsbD 0) = false := BitVec.getLsbD_zero
    rw [z] at this
    simpa using this.symm
  · intro q
    refine Int64.toBitVec_inj.mp (BitVec.eq_of_getLsbD_eq (fun i hi => ?_))
    rw [e i hi, q, Bool.and_false]
    exact (BitVec.getLsbD_zero).symm
theorem n_way {x : Int32} (h0 : 0 ≤ x.toInt) (h1 : x.toInt ≤ 4095) : (x >>> ((6 : Int32) &&& 31)).toNatClampNeg = x.toNatClampNeg / 64 ∧ 0 ≤ (x >>> ((6 : Int32) &&& 31)).toInt ∧ (x >>> ((6 : Int32) &&& 31)).toInt < ((64 : Nat) : Int) ∧ x &&& (63 : Int32) = nI (x.toNatClampNeg % 64) := by
  have e := a_tn h0
  have e6 : (x >>> ((6 : Int32) &&& 31)).toInt = x.toInt / 64 := a_shrE 6 (by decide) (by decide) (by decide)
  have q : x &&& (63 : Int32) = nI (x.toNatClampNeg &&& 63) := by
    conv => lhs; rw [a_nI h0]
    exact n_and _ 63
  have q2 : x.toNatClampNeg &&& 63 = x.toNatClampNeg % 64 := Nat.and_two_pow_sub_one_eq_mod x.toNatClampNeg 6
  have e7 := a_tn (x := (x >>> ((6 : Int32) &&& 31))) (by omega)
  refine ⟨by omega, by omega, by omega, by rw [q, q2]⟩
/-- a way that is marked as found -/
def fnd (m : sm_S) (w : Nat) : Bool := bl (m.2 52 (w / 64)) (w % 64)
theorem e_isFound {m : sm_S} {x : Int32} (h0 : 0 ≤ x.toInt) (h1 : x.toInt ≤ 4095) : fX0_isFound x m = some (if fnd m x.toNatClampNeg then (1 : Int32) else 0) := by
  obtain ⟨n1, n2, n3, n4⟩ := n_way h0 h1
  unfold fX0_isFound
  rw [if_pos (ix_in ⟨n2, n3⟩), n1, n4]
  unfold fnd
  have hb := bl_test (x := m.2 52 (x.toNatClampNeg / 64)) (n := x.toNatClampNeg % 64) (by omega)
  cases hq : bl (m.2 52 (x.toNatClampNeg / 64)) (x.toNatClampNeg % 64) with
  | false => rw [if_pos ((lg_cmp_eq _ _).mpr (hb.mpr hq))]; rfl
  | true =>
    rw [if_neg (fun z => by have := hb.mp ((lg_cmp_eq _ _).mp z); rw [hq] at this; cases this)]; rfl
/-- no hearing is a lie -/
def okB (m : sm_S) (w : Nat) : Bool := (List.range 12).all (fun k => !(decide ((k : Int) < (m.1 51 0).toInt) && lyw m (nI w) k))
theorem okB.iff {m : sm_S} (hI : zI m) {w : Nat} : okB m w = true ↔ ∀ k : Nat, (k : Int) < (m.1 51 0).toInt → lyw m (nI w) k = false := by
  have c51 : 0 ≤ (m.1 51 0).toInt ∧ (m.1 51 0).toInt ≤ 12 := hI.1 51 0
  unfold okB
  rw [List.all_eq_true]
  constructor
  · intro h k hk
    have := h k (List.mem_range.mpr (by omega))
    rw [decide_eq_true hk] at this
    simpa using this
  · intro h k hk
    by_cases q : (k : Int) < (m.1 51 0).toInt
    · rw [h k q]; simp
    · rw [decide_eq_false q]; simp
/-- what a way's lies depend on -/
theorem lyw.fr {m m' : sm_S} (F : Fr [(51, 1), (14, 1), (15, 999), (55, 999)] m m') (w : Int32) (k : Nat) : lyw m' w k = lyw m w k := by
  unfold lyw ovw
  rw [F 53 k rfl, F 54 k rfl, F 9 _ rfl, F 10 _ rfl]
theorem okB.fr {m m' : sm_S} (F : Fr [(51, 1), (14, 1), (15, 999), (55, 999)] m m') (w : Nat) : okB m' w = okB m w := by
  unfold okB
  rw [F 51 0 rfl]
  congr 1
  funext k
  rw [lyw.fr F]
theorem b_all {c : Int32} (h0 : 0 ≤ c.toInt) (h1 : c.toInt ≤ 14) {i : Nat} (hi : i < 32) : bt (((1 : Int32) <<< (c &&& 31)) - (1 : Int32)) i = decide ((i : Int) < c.toInt) := by
  have e := a_tn h0
  have key : ∀ n, n < 15 → ∀ i, i < 32 → bt (((1 : Int32) <<< ((nI n) &&& 31)) - (1 : Int32)) i = decide (i < n) := by decide +kernel
  have h := key c.toNatClampNeg (by omega) i hi
  rw [← a_nI h0] at h
  rw [h]
  exact decide_eq_decide.mpr (by omega)
theorem hldw.all {m : sm_S} (hI : zI m) {w : Int32} (h0 : 0 ≤ w.toInt) : hldw m w (((1 : Int32) <<< ((m.1 51 0) &&& 31)) - (1 : Int32)) ↔ okB m w.toNatClampNeg = true := by
  have c51 : 0 ≤ (m.1 51 0).toInt ∧ (m.1 51 0).toInt ≤ 12 := hI.1 51 0
  rw [okB.iff hI, ← a_nI h0]
  constructor
  · intro h k hk
    exact h k hk (by rw [b_all c51.1 (by omega) (by omega), decide_eq_true hk])
  · intro h k hk _
    exact h k hk
theorem WBw.zero {m : sm_S} (hI : zI m) {w x : Int32} (h0 : 0 ≤ w.toInt) (h : WBw m w x) : x = 0 ↔ okB m w.toNatClampNeg = true := by
  have c51 : 0 ≤ (m.1 51 0).toInt ∧ (m.1 51 0).toInt ≤ 12 := hI.1 51 0
  rw [okB.iff hI, ← a_nI h0]
  constructor
  · intro q k hk
    have := h k (by omega)
    rw [q, b_0, decide_eq_true hk] at this
    simpa using this.symm
  · intro q
    refine b_ext (fun i hi => ?_)
    rw [h i hi, b_0]
    by_cases g : (i : Int) < (m.1 51 0).toInt
    · rw [q i g]; simp
    · rw [decide_eq_false g]; rfl
/-- what stands behind the search for ways -/
def FW (m0 m : sm_S) (v : Int) : Prop := Fr [(51, 1)] m0 m ∧ (∀ w : Nat, v < (w : Int) → w < 4096 → fnd m w = okB m0 w) ∧ (∀ w : Nat, (w : Int) ≤ v → fnd m w = false) ∧ ((∀ w : Nat, v < (w : Int) → w < 4096 → okB m0 w = false) ∨ (v < (m.1 51 1).toInt ∧ okB m0 (m.1 51 1).toNatClampNeg = true ∧ ∀ w : Nat, v < (w : Int) → (w : Int) < (m.1 51 1).toInt → okB m0 w = false))
theorem v_findWays (m0 : sm_S) (hI0 : zI m0) : ∀ (n : Nat) (v2 v3 : Int32) (m : sm_S), zI m → -1 ≤ v3.toInt → v3.toInt ≤ 4095 → v3.toInt + 1 < (n : Int) → 0 ≤ v2.toInt → v2.toInt + v3.toInt ≤ 4095 → FW m0 m v3.toInt → Sf (fun r => r.1.toInt = v2.toInt + (cnt (okB m0) (v3.toInt + 1).toNat : Nat) ∧ FW m0 r.2 (-1) ∧ zI r.2) (fX0_findWays_27 n v2 v3 m) := by
  have l0 := L0
  have l1 := L1
  intro n
  induction n with
  | zero => intro v2 v3 m hI h0 h1 hn; have hz : ((0 : Nat) : Int) = 0 := rfl; omega
  | succ n ih =>
    intro v2 v3 m hI h0 h1 hn h2 h23 hF
    have hnn : ((n + 1 : Nat) : Int) = (n : Int) + 1 := by omega
    unfold fX0_findWays_27
    refine s_lt (fun g => s_ret ⟨?_, ?_, hI⟩) (fun g => ?_)
    · have : v3.toInt = -1 := by omega
      rw [this]
      show v2.toInt = v2.toInt + ((0 : Nat) : Int)
      omega
    · have : v3.toInt = -1 := by omega
      rw [this] at hF; exact hF
    · have g0 : 0 ≤ v3.toInt := by omega
      have et := a_tn g0
      have e3 : (v3 + (-1 : Int32)).toInt = v3.toInt - 1 := by rw [a_m1]; exact a_subl L1 (by omega) (by omega)
      obtain ⟨F, f1, f2, f3⟩ := hF
      have F' : Fr [(51, 1), (14, 1), (15, 999), (55, 999)] m0 m := Fr.sub F rfl
      unfold fX0_all
      rw [Option.bind_some]
      refine s_bd (s_allHold v3 _ hI) (fun r4 h4 => ?_)
      have hcnt : (v3.toInt + 1).toNat = v3.toNatClampNeg + 1 := by omega
      have hcnt2 : ((v3 + (-1 : Int32)).toInt + 1).toNat = v3.toNatClampNeg := by omega
      have hok : hldw m v3 (((1 : Int32) <<< ((m.1 51 0) &&& 31)) - (1 : Int32)) ↔ okB m0 v3.toNatClampNeg = true := by
        rw [hldw.all hI g0, okB.fr F']
      refine s_eq (fun g4 => ?_) (fun g4 => ?_)
      · have nk : okB m0 v3.toNatClampNeg = false := by
          cases hq : okB m0 v3.toNatClampNeg with
          | false => rfl
          | true =>
            have := hok.mpr hq
            rcases h4 with h4 | h4
            · omega
            · exact absurd this h4.2
        refine s_mono (ih v2 (v3 + (-1 : Int32)) m hI (by omega) (by omega) (by omega) h2 (by omega) ⟨F, fun w hw hw2 => ?_, fun w hw => f2 w (by omega), ?_⟩) ?_
        · by_cases q : w = v3.toNatClampNeg
          · subst q; rw [nk]; exact f2 _ (by omega)
          · exact f1 w (by omega) hw2
        · rcases f3 with f3 | ⟨f3, f4, f5⟩
          · refine Or.inl (fun w hw hw2 => ?_)
            by_cases q : w = v3.toNatClampNeg
            · subst q; exact nk
            · exact f3 w (by omega) hw2
          · refine Or.inr ⟨by omega, f4, fun w hw hw2 => ?_⟩
            by_cases q : w = v3.toNatClampNeg
            · subst q; exact nk
            · exact f5 w (by omega) hw2
        · rintro r ⟨r1, r2, r3⟩
          refine ⟨?_, r2, r3⟩
          rw [r1, hcnt, hcnt2]
          show _ = v2.toInt + ((cnt (okB m0) v3.toNatClampNeg + (if okB m0 v3.toNatClampNeg = true then 1 else 0) : Nat) : Int)
          rw [nk, if_neg (by decide)]; rfl
      · have yk : okB m0 v3.toNatClampNeg = true := by
          refine hok.mp ?_
          rcases h4 with h4 | h4
          · exact h4.2
          · omega
        obtain ⟨n1, n2, n3, n4⟩ := n_way g0 h1
        refine s_ix ⟨n2, n3⟩ (s_ix ⟨n2, n3⟩ ?_)
        have e2 : (v2 + (1 : Int32)).toInt = v2.toInt + 1 := a_addl L1 (by omega) (by omega)
        have i1 : zI (sm_w1 (sm_w2 m 52 (v3 >>> ((6 : Int32) &&& 31)).toNatClampNeg ((m.2 52 (v3 >>> ((6 : Int32) &&& 31)).toNatClampNeg) ||| ((1 : Int64) <<< (((v3 &&& (63 : Int32))).toInt64 &&& 63)))) 51 1 v3) := zI.w (show zI (sm_w2 m 52 _ _) from hI) rfl (show 0 ≤ v3.toInt ∧ v3.toInt ≤ 4095 by omega)
        have hf : ∀ w : Nat, w < 4096 → fnd (sm_w1 (sm_w2 m 52 (v3 >>> ((6 : Int32) &&& 31)).toNatClampNeg ((m.2 52 (v3 >>> ((6 : Int32) &&& 31)).toNatClampNeg) ||| ((1 : Int64) <<< (((v3 &&& (63 : Int32))).toInt64 &&& 63)))) 51 1 v3) w = (fnd m w || decide (w = v3.toNatClampNeg)) := by
          intro w hw
          rw [n1, n4]
          show bl ((sm_w2 m 52 (v3.toNatClampNeg / 64) ((m.2 52 (v3.toNatClampNeg / 64)) ||| ((1 : Int64) <<< ((nI (v3.toNatClampNeg % 64)).toInt64 &&& 63)))).2 52 (w / 64)) (w % 64) = (bl (m.2 52 (w / 64)) (w % 64) || decide (w = v3.toNatClampNeg))
          by_cases q : w / 64 = v3.toNatClampNeg / 64
          · rw [q, r2_hit, bl_or, bl_shl (by omega) (by omega)]
            rw [show decide (w % 64 = v3.toNatClampNeg % 64) = decide (w = v3.toNatClampNeg) from decide_eq_decide.mpr (by omega)]
          · rw [r2_place q, decide_eq_false (show ¬ w = v3.toNatClampNeg by intro z; rw [z] at q; exact q rfl), Bool.or_false]
        have F1 : Fr [(51, 1)] m0 (sm_w1 (sm_w2 m 52 (v3 >>> ((6 : Int32) &&& 31)).toNatClampNeg ((m.2 52 (v3 >>> ((6 : Int32) &&& 31)).toNatClampNeg) ||| ((1 : Int64) <<< (((v3 &&& (63 : Int32))).toInt64 &&& 63)))) 51 1 v3) := Fr.w (Fr.w2 F) rfl
        refine s_mono (ih (v2 + (1 : Int32)) (v3 + (-1 : Int32)) _ i1 (by omega) (by omega) (by omega) (by omega) (by omega) ⟨F1, fun w hw hw2 => ?_, fun w hw => ?_, Or.inr ⟨?_, ?_, fun w hw hw2 => ?_⟩⟩) ?_
        · rw [hf w hw2]
          by_cases q : w = v3.toNatClampNeg
          · subst q; rw [yk, decide_eq_true rfl, Bool.or_true]
          · rw [decide_eq_false q, Bool.or_false]; exact f1 w (by omega) hw2
        · rw [hf w (by omega), f2 w (by omega), decide_eq_false (by omega)]; rfl
        · rw [r_hit]; omega
        · rw [r_hit]; exact yk
        · rw [r_hit] at hw2; omega
        · rintro r ⟨r1, r2, r3⟩
          refine ⟨?_, r2, r3⟩
          rw [r1, hcnt, hcnt2, e2]
          show _ = v2.toInt + ((cnt (okB m0) v3.toNatClampNeg + (if okB m0 v3.toNatClampNeg = true then 1 else 0) : Nat) : Int)
          rw [yk, if_pos rfl]
          omega
theorem v_clear : ∀ (n : Nat) (v2 : Int32) (m : sm_S), zI m → 0 ≤ v2.toInt → v2.toInt ≤ 64 → 64 - v2.toInt < (n : Int) → (∀ w : Nat, (w : Int) < 64 * v2.toInt → fnd m w = false) → Sf (fun r => r.1.toInt = ((cnt (okB m) 4096 : Nat) : Int) ∧ FW m r.2 (-1) ∧ zI r.2) (fX0_findWays_2 n v2 m) := by
  have l0 := L0
  have l1 := L1
  have l64 := L64
  have l4095 := L4095
  have hfu := fuE
  intro n
  induction n with
  | zero => intro v2 m hI h0 h1 hn; have hz : ((0 : Nat) : Int) = 0 := rfl; omega
  | succ n ih =>
    intro v2 m hI h0 h1 hn hf
    have hnn : ((n + 1 : Nat) : Int) = (n : Int) + 1 := by omega
    unfold fX0_findWays_2
    refine s_le (fun g => ?_) (fun g => ?_)
    · have e : v2.toInt = 64 := by omega
      refine s_mono (v_findWays m hI sm_fu (0 : Int32) (4095 : Int32) m hI (by omega) (by omega) (by omega) (by omega) (by omega) ⟨Fr.refl, fun w hw hw2 => by omega, fun w hw => hf w (by omega), Or.inl (fun w hw hw2 => by omega)⟩) ?_
      rintro r ⟨r1, r2, r3⟩
      refine ⟨?_, r2, r3⟩
      rw [r1, l0, l4095]
      show (0 : Int) + ((cnt (okB m) 4096 : Nat) : Int) = _
      omega
    · have e3 : (v2 + (1 : Int32)).toInt = v2.toInt + 1 := a_addl L1 (by omega) (by omega)
      have et := a_tn h0
      refine s_ix (by omega) ?_
      refine s_mono (ih (v2 + (1 : Int32)) (sm_w2 m 52 (v2).toNatClampNeg (0 : Int64)) hI (by omega) (by omega) (by omega) (fun w hw => ?_)) (fun r hr => hr)
      show bl ((sm_w2 m 52 (v2).toNatClampNeg (0 : Int64)).2 52 (w / 64)) (w % 64) = false
      by_cases q : w / 64 = v2.toNatClampNeg
      · rw [q, r2_hit, bl_0]
      · rw [r2_place q]; exact hf w (by omega)
theorem s_findWays {m : sm_S} (hI : zI m) : Sf (fun r => r.1.toInt = ((cnt (okB m) 4096 : Nat) : Int) ∧ FW m r.2 (-1) ∧ zI r.2) (fX0_findWays m) := by
  have l0 := L0
  have hfu := fuE
  exact v_clear sm_fu (0 : Int32) m hI (by omega) (by omega) (by omega) (fun w hw => by omega)
theorem v_digits4 : ∀ (d n : Nat) (v0 v1 v2 : Int32) (m : sm_S), d ≤ 6 → v2.toInt = 6 - (d : Int) → d < n → ∃ r, fX12_digitsOf_4 n v0 v1 v2 m = some r := by
  have l6 := L6
  intro d
  induction d with
  | zero =>
    intro n v0 v1 v2 m _ h hn
    obtain ⟨n', rfl⟩ : ∃ n', n = n' + 1 := ⟨n - 1, by omega⟩
    have hz : ((0 : Nat) : Int) = 0 := rfl
    unfold fX12_digitsOf_4
    rw [if_pos (leI.mpr (by omega))]
    exact ⟨_, rfl⟩
  | succ d ih =>
    intro n v0 v1 v2 m hd h hn
    have hdd : ((d + 1 : Nat) : Int) = (d : Int) + 1 := by omega
    obtain ⟨n', rfl⟩ : ∃ n', n = n' + 1 := ⟨n - 1, by omega⟩
    have e3 : (v2 + (1 : Int32)).toInt = v2.toInt + 1 := a_addl L1 (by omega) (by omega)
    unfold fX12_digitsOf_4 fX12_cowsOf
    rw [if_neg (fun z => by have := leI.mp z; omega), Option.bind_some]
    exact ih n' _ _ _ m (by omega) (by omega) (by omega)
theorem v_digits (v : Int32) (m : sm_S) : ∃ d, fX12_digitsOf v m = some d := v_digits4 6 sm_fu v (0 : Int32) (0 : Int32) m (by decide) (by decide) (by rw [show sm_fu = 200000 from rfl]; decide)
theorem v_asDigits4 : ∀ (d n : Nat) (v0 v1 v2 : Int32) (m : sm_S), d ≤ 6 → v2.toInt = 6 - (d : Int) → d < n → ∃ r, fX0_asDigits_4 n v0 v1 v2 m = some r := by
  have l6 := L6
  intro d
  induction d with
  | zero =>
    intro n v0 v1 v2 m _ h hn
    obtain ⟨n', rfl⟩ : ∃ n', n = n' + 1 := ⟨n - 1, by omega⟩
    have hz : ((0 : Nat) : Int) = 0 := rfl
    unfold fX0_asDigits_4
    rw [if_pos (leI.mpr (by omega))]
    exact ⟨_, rfl⟩
  | succ d ih =>
    intro n v0 v1 v2 m hd h hn
    have hdd : ((d + 1 : Nat) : Int) = (d : Int) + 1 := by omega
    obtain ⟨n', rfl⟩ : ∃ n', n = n' + 1 := ⟨n - 1, by omega⟩
    have e3 : (v2 + (1 : Int32)).toInt = v2.toInt + 1 := a_addl L1 (by omega) (by omega)
    unfold fX0_asDigits_4 fX0_cowsIn
    rw [if_neg (fun z => by have := leI.mp z; omega), Option.bind_some]
    exact ih n' _ _ _ m (by omega) (by omega) (by omega)
theorem v_asDigits (v : Int32) (m : sm_S) : ∃ d, fX0_asDigits v m = some d := v_asDigits4 6 sm_fu v (0 : Int32) (0 : Int32) m (by decide) (by decide) (by rw [show sm_fu = 200000 from rfl]; decide)
theorem v_lands12 (m s : sm_S) (hL : XL m s) (hE : XE m s) (hI : zI m) (hJ : zI s) : ∀ (n : Nat) (v1 v2 v3 : Int32), 0 ≤ v3.toInt → v3.toInt ≤ 4096 → 4096 - v3.toInt < (n : Int) → v1.toInt = ((cnt (okB m) v3.toNatClampNeg : Nat) : Int) → Sf (fun r => r.1.toInt = ((cnt (okB m) 4096 : Nat) : Int)) (fX12_lands_11 n v1 v2 v3 s) := by
  have l0 := L0
  have l1 := L1
  have l4096 := L4096
  intro n
  induction n with
  | zero => intro v1 v2 v3 h0 h1 hn; have hz : ((0 : Nat) : Int) = 0 := rfl; omega
  | succ n ih =>
    intro v1 v2 v3 h0 h1 hn hc
    have hnn : ((n + 1 : Nat) : Int) = (n : Int) + 1 := by omega
    have et := a_tn h0
    have hle := cnt_le (okB m) v3.toNatClampNeg
    unfold fX12_lands_11
    refine s_le (fun g => ?_) (fun g => ?_)
    · have e : v3.toNatClampNeg = 4096 := by omega
      rw [e] at hc
      refine s_if (fun _ => s_ret hc) (fun _ => ?_)
      have i1 : zI (sm_w1 s 72 1 (0 : Int32)) := zI.w hJ rfl (show 0 ≤ (0 : Int32).toInt ∧ (0 : Int32).toInt ≤ 24 by omega)
      have e1 : ((sm_w1 s 72 1 (0 : Int32)).1 72 1).toInt = 0 := l0
      obtain ⟨d, ed⟩ : ∃ d, fX12_digitsOf v2 (sm_w1 s 72 1 (0 : Int32)) = some d := v_digits v2 _
      rw [ed, Option.bind_some]
      exact s_bd (zX12_enters d _ (by omega) i1) (fun m4 _ => s_ret hc)
    · have e3 : (v3 + (1 : Int32)).toInt = v3.toInt + 1 := a_addl L1 (by omega) (by omega)
      have e1 : (v1 + (1 : Int32)).toInt = v1.toInt + 1 := a_addl L1 (by omega) (by omega)
      have ht : (v3 + (1 : Int32)).toNatClampNeg = v3.toNatClampNeg + 1 := by
        have := a_tn (x := v3 + (1 : Int32)) (by omega)
        omega
      have hs : cnt (okB m) (v3.toNatClampNeg + 1) = cnt (okB m) v3.toNatClampNeg + (if okB m v3.toNatClampNeg = true then 1 else 0) := rfl
      refine s_bd (s_wrongOf v3 hL hE hI) (fun x hx => ?_)
      have hz := hx.zero hI h0
      refine s_if (fun g6 => ?_) (fun g6 => ?_)
      · have yk := hz.mp g6
        rw [yk, if_pos rfl] at hs
        exact s_if (fun _ => ih _ _ _ (by omega) (by omega) (by omega) (by rw [ht, hs]; omega)) (fun _ => ih _ _ _ (by omega) (by omega) (by omega) (by rw [ht, hs]; omega))
      · have nk : ¬ okB m v3.toNatClampNeg = true := fun z => g6 (hz.mpr z)
        rw [if_neg nk] at hs
        exact ih _ _ _ (by omega) (by omega) (by omega) (by rw [ht, hs]; omega)
theorem tq_lands {m s : sm_S} (hR : RX m s) (hI : zI m) (hJ : zI s) (_ : zC s) : TR (fun a b => a.1 = b.1) (fX11_lands m) (fX12_lands s) := by
  have l0 := L0
  have hfu := fuE
  have i0 : zI (sm_w1 s 72 0 (0 : Int32)) := zI.w hJ rfl (show 0 ≤ (0 : Int32).toInt ∧ (0 : Int32).toInt ≤ 1 by omega)
  have hL : XL m (sm_w1 s 72 0 (0 : Int32)) := hR.2.1
  have hE : XE m (sm_w1 s 72 0 (0 : Int32)) := hR.2.2
  have et : (0 : Int32).toNatClampNeg = 0 := by decide
  obtain ⟨b, eb, hb⟩ := v_lands12 m _ hL hE hI i0 sm_fu (0 : Int32) (0 : Int32) (0 : Int32) (by omega) (by omega) (by omega) (by rw [et, l0]; rfl)
  unfold fX12_lands
  rw [eb]
  unfold fX11_lands
  refine tl_bd (s_findWays hI) (fun a ha => ?_)
  obtain ⟨a1, -, a3⟩ := ha
  refine tl_bd (zX5_clear a.2 a3) (fun m4 h4 => ?_)
  have fin : a.1 = b.1 := Int32.toInt_inj.mp (a1.trans hb.symm)
  refine tl_if (fun _ => t_ret fin) (fun _ => ?_)
  obtain ⟨d, ed⟩ : ∃ d, fX0_asDigits (m4.1 51 1) m4 = some d := v_asDigits _ _
  rw [ed, Option.bind_some]
  exact tl_bd (zX5_add d m4 h4.2.1) (fun m8 _ => t_ret fin)
