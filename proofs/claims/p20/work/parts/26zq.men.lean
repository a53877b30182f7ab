/-! MEN: the parts of the land, in both orders -/
def wmv (x : Int32) : Int32 := if (1 : Int32) < (bcv x / (2 : Int32)) then (bcv x / (2 : Int32)) else (1 : Int32)
def smv (S : Nat → Bool) (w : Nat → Int32) : Nat → Int32
  | 0 => 0
  | n + 1 => if S n = true then smv S w n + w n else smv S w n
theorem smv_t {S : Nat → Bool} {w : Nat → Int32} {n : Nat} (h : S n = true) : smv S w (n + 1) = smv S w n + w n := by
  show (if S n = true then smv S w n + w n else smv S w n) = _
  rw [if_pos h]
theorem smv_f {S : Nat → Bool} {w : Nat → Int32} {n : Nat} (h : S n = false) : smv S w (n + 1) = smv S w n := by
  show (if S n = true then smv S w n + w n else smv S w n) = _
  rw [if_neg (by rw [h]; decide)]
theorem smv_cg {S S' : Nat → Bool} {w : Nat → Int32} : ∀ {C : Nat}, (∀ c, c < C → S c = S' c) → smv S w C = smv S' w C
  | 0, _ => rfl
  | C + 1, h => by
    have e := smv_cg (S := S) (S' := S') (w := w) (C := C) (fun c hc => h c (by omega))
    have q := h C (by omega)
    cases hS : S C with
    | true => rw [smv_t hS, smv_t (q ▸ hS), e]
    | false => rw [smv_f hS, smv_f (q ▸ hS), e]
theorem smv_add {S S' : Nat → Bool} {w : Nat → Int32} {l : Nat} (hl : S l = false) (h : ∀ c, S' c = (S c || decide (c = l))) : ∀ {C : Nat}, l < C → smv S' w C = smv S w C + w l
  | 0, h0 => absurd h0 (Nat.not_lt_zero _)
  | C + 1, h0 => by
    by_cases q : l = C
    · subst q
      have hS' : S' l = true := by rw [h l, decide_eq_true (p := l = l) rfl, Bool.or_true]
      rw [smv_t hS', smv_f hl, smv_cg (S := S') (S' := S) (fun c hc => by rw [h c, decide_eq_false (show ¬ c = l by omega), Bool.or_false])]
    · have e := smv_add hl h (w := w) (C := C) (by omega)
      have e2 : S' C = S C := by rw [h C, decide_eq_false (show ¬ C = l by omega), Bool.or_false]
      cases hS : S C with
      | true => rw [smv_t (e2.trans hS), smv_t hS, e, Int32.add_assoc, Int32.add_comm (w l) (w C), ← Int32.add_assoc]
      | false => rw [smv_f (e2.trans hS), smv_f hS, e]
/-- whether one of the first hedges has label c -/
def smL (s : sm_S) (c : Nat) : Nat → Bool
  | 0 => false
  | k + 1 => smL s c k || decide (tl s (ta s k) = (c : Int))
theorem smL_iff {s : sm_S} {c : Nat} : ∀ {h : Nat}, smL s c h = true ↔ ∃ k, k < h ∧ tl s (ta s k) = (c : Int)
  | 0 => ⟨fun z => (by cases z), fun ⟨k, hk, _⟩ => absurd hk (Nat.not_lt_zero _)⟩
  | h + 1 => by
    have ih := smL_iff (s := s) (c := c) (h := h)
    constructor
    · intro z
      rcases Bool.or_eq_true_iff.mp z with z | z
      · obtain ⟨k, hk, e⟩ := ih.mp z
        exact ⟨k, by omega, e⟩
      · exact ⟨h, Nat.lt_succ_self h, of_decide_eq_true z⟩
    · rintro ⟨k, hk, e⟩
      refine Bool.or_eq_true_iff.mpr ?_
      by_cases q : k = h
      · subst q; exact Or.inr (decide_eq_true e)
      · exact Or.inl (ih.mpr ⟨k, by omega, e⟩)
def wmL (s : sm_S) (A : Int32) (c : Nat) : Int32 := wmv (((fX12_partOfHedges (nI c) A s).bind fun r => fX12_oddOf r s).getD 0)
theorem e_part {s : sm_S} (hJ : zI s) (hC : zC s) {A : Int32} (hA : 0 ≤ A.toInt ∧ A.toInt ≤ 16383) (c : Int32) : ∃ r x, fX12_partOfHedges c A s = some r ∧ fX12_oddOf r s = some x ∧ (∀ i, i < 32 → bt r i = (decide (i < nH s) && (bt A i && decide (tl s (ta s i) = c.toInt)))) ∧ (∀ v, v < 32 → bt x v = par (ta s) (tb s) (bt r) v (nH s)) := by
  obtain ⟨eH, eC, bH, bC⟩ := t_n hJ
  obtain ⟨r, er, hr⟩ := zpo c A s hA hJ hC
  have h0 : 0 ≤ r.toInt := by
    rcases Int.lt_or_le r.toInt 0 with q | q
    · have hm : bt r 31 = true := by
        unfold bt
        have e : r.toBitVec.msb = true := by
          rw [BitVec.msb_eq_toInt, Int32.toInt_toBitVec]
          exact decide_eq_true q
        rw [BitVec.msb_eq_getLsbD_last] at e
        exact e
      rw [hr 31 (by decide), decide_eq_false (show ¬ 31 < nH s by omega), Bool.false_and] at hm
      cases hm
    · exact q
  have h14 := g_pow (X := r) (k := 14) h0 (fun i hi hb => by
    rw [hr i hi] at hb
    have := of_decide_eq_true (Bool.and_eq_true_iff.mp hb).1
    omega)
  have e14 : ((2 ^ 14 : Nat) : Int) = 16384 := by decide
  obtain ⟨x, ex, -, hx⟩ := zod r s ⟨h0, by omega⟩ hJ hC
  exact ⟨r, x, er, ex, hr, hx⟩
theorem e_wmL {s : sm_S} {A c r x : Int32} (h0 : 0 ≤ c.toInt) (er : fX12_partOfHedges c A s = some r) (ex : fX12_oddOf r s = some x) : wmL s A c.toNatClampNeg = wmv x := by
  unfold wmL
  rw [← a_nI h0, er, Option.bind_some, ex]
  rfl
theorem par_part {a b : Nat → Nat} {S P : Nat → Bool} {v : Nat} : ∀ {n : Nat}, (∀ k, k < n → P (a k) = S k ∧ P (b k) = S k) → par a b S v n = (P v && par a b (fun _ => true) v n)
  | 0, _ => by show false = (P v && false); rw [Bool.and_false]
  | n + 1, h => by
    have e := par_part (a := a) (b := b) (S := S) (P := P) (v := v) (n := n) (fun k hk => h k (by omega))
    obtain ⟨p1, p2⟩ := h n (by omega)
    show (par a b S v n ^^ (S n && (decide (a n = v) ^^ decide (b n = v)))) = (P v && (par a b (fun _ => true) v n ^^ (true && (decide (a n = v) ^^ decide (b n = v)))))
    rw [e]
    by_cases q1 : a n = v
    · rw [q1] at p1
      rw [p1]
      cases S n <;> cases par a b (fun _ => true) v n <;> cases decide (a n = v) <;> cases decide (b n = v) <;> rfl
    · by_cases q2 : b n = v
      · rw [q2] at p2
        rw [p2]
        cases S n <;> cases par a b (fun _ => true) v n <;> cases decide (a n = v) <;> cases decide (b n = v) <;> rfl
      · rw [decide_eq_false q1, decide_eq_false q2]
        cases S n <;> cases P v <;> cases par a b (fun _ => true) v n <;> rfl
theorem v_men19 {s : sm_S} (hJ : zI s) (hC : zC s) (hPI : tPI s (((1 : Int32) <<< ((s.1 72 6) &&& 31)) - (1 : Int32))) : ∀ (n : Nat) (v1 v2 v3 : Int32), 0 ≤ v3.toInt → v3.toInt ≤ (s.1 72 3).toInt → (s.1 72 3).toInt - v3.toInt < (n : Int) → v1 = smv (fun c => smL s c (nH s)) (wmL s (((1 : Int32) <<< ((s.1 72 6) &&& 31)) - (1 : Int32))) v3.toNatClampNeg → Sf (fun r => r.1 = smv (fun c => smL s c (nH s)) (wmL s (((1 : Int32) <<< ((s.1 72 6) &&& 31)) - (1 : Int32))) (nC s)) (fX12_men_19 n v1 v2 v3 s) := by
  have l0 := L0
  have cH : 0 ≤ (s.1 72 6).toInt ∧ (s.1 72 6).toInt ≤ 14 := hJ.1 72 6
  obtain ⟨eH, eC, bH, bC⟩ := t_n hJ
  have hA := all_b cH.1 cH.2
  have hall : ∀ h : Nat, h < nH s → bt (((1 : Int32) <<< ((s.1 72 6) &&& 31)) - (1 : Int32)) h = true := fun h hh => by
    rw [b_all cH.1 (by omega) (by omega)]; exact decide_eq_true (by omega)
  intro n
  induction n with
  | zero => intro v1 v2 v3 h0 h1 hn; have hz : ((0 : Nat) : Int) = 0 := rfl; omega
  | succ n ih =>
    intro v1 v2 v3 h0 h1 hn hv
    have hnn : ((n + 1 : Nat) : Int) = (n : Int) + 1 := by omega
    have et := a_tn h0
    unfold fX12_men_19 fX12_allHedges
    refine s_le (fun g => ?_) (fun g => ?_)
    · have i1 : zI (sm_w1 s 72 1 (0 : Int32)) := zI.w hJ rfl (show 0 ≤ (0 : Int32).toInt ∧ (0 : Int32).toInt ≤ 24 by omega)
      have e1 : ((sm_w1 s 72 1 (0 : Int32)).1 72 1).toInt = (0 : Int32).toInt := rfl
      refine s_bd (zX12_enters v2 _ (by omega) i1) (fun m6 _ => s_ret ?_)
      show v1 = _
      rw [hv, show v3.toNatClampNeg = nC s by omega]
    · have e3 : (v3 + (1 : Int32)).toInt = v3.toInt + 1 := a_addl L1 (by omega) (by omega)
      have hs3 : (v3 + (1 : Int32)).toNatClampNeg = v3.toNatClampNeg + 1 := by
        have := a_tn (x := v3 + (1 : Int32)) (by omega)
        omega
      obtain ⟨r, x, er, ex, hr, hx⟩ := e_part hJ hC hA v3
      rw [Option.bind_some, er, Option.bind_some]
      refine s_eq (fun g2 => ?_) (fun g2 => ?_)
      · have e0 : r = 0 := eqI.mpr g2
        refine ih v1 v2 (v3 + (1 : Int32)) (by omega) (by omega) (by omega) ?_
        have hf : (fun c => smL s c (nH s)) v3.toNatClampNeg = false := by
          cases hq : smL s v3.toNatClampNeg (nH s) with
          | false => exact hq
          | true =>
            obtain ⟨k, hk, e⟩ := smL_iff.mp hq
            have := hr k (by omega)
            rw [e0, b_0, decide_eq_true hk, hall k hk, decide_eq_true (show tl s (ta s k) = v3.toInt by omega)] at this
            cases this
        rw [hs3, smv_f (S := fun c => smL s c (nH s)) hf]; exact hv
      · rw [ex, Option.bind_some, e_bc, Option.bind_some]
        refine ih _ (v2 + (1 : Int32)) (v3 + (1 : Int32)) (by omega) (by omega) (by omega) ?_
        have ht : (fun c => smL s c (nH s)) v3.toNatClampNeg = true := by
          cases hq : smL s v3.toNatClampNeg (nH s) with
          | true => exact hq
          | false =>
            refine absurd (congrArg Int32.toInt (show r = 0 from b_ext (fun i hi => ?_))) g2
            rw [b_0]
            cases hb : bt r i with
            | false => rfl
            | true =>
              rw [hr i hi] at hb
              obtain ⟨p1, p2⟩ := Bool.and_eq_true_iff.mp hb
              have p3 := of_decide_eq_true (Bool.and_eq_true_iff.mp p2).2
              have := smL_iff.mpr ⟨i, of_decide_eq_true p1, show tl s (ta s i) = ((v3.toNatClampNeg : Nat) : Int) by omega⟩
              rw [hq] at this; cases this
        rw [hs3, smv_t (S := fun c => smL s c (nH s)) ht, e_wmL h0 er ex, hv]
        rfl
theorem v_men25 {m s : sm_S} (hL : XL m s) (hI : zI m) (hJ : zI s) (hC : zC s) {A odd : Int32} (eA : A = ((1 : Int32) <<< ((s.1 72 6) &&& 31)) - (1 : Int32)) (hPF : tPF s A) (hPI : tPI s A) (hO : oddv s odd) : ∀ (n : Nat) (v2 v3 v4 v5 : Int32), 0 ≤ v5.toInt → v5.toInt ≤ (m.1 3 1).toInt → (m.1 3 1).toInt - v5.toInt < (n : Int) → (∀ i : Nat, i < 32 → (bt v2 i = true ↔ ∃ k, k < v5.toNatClampNeg ∧ tcn s A (ta s k) i)) → v4 = smv (fun c => smL s c v5.toNatClampNeg) (wmL s A) (nC s) → Sf (fun r => r.1 = smv (fun c => smL s c (nH s)) (wmL s A) (nC s)) (fX11_men_25 n odd v2 v3 v4 v5 m) := by
  have l0 := L0
  have e31 := hL.hedge
  have c31 : 0 ≤ (m.1 3 1).toInt ∧ (m.1 3 1).toInt ≤ 14 := hI.1 3 1
  have cH : 0 ≤ (s.1 72 6).toInt ∧ (s.1 72 6).toInt ≤ 14 := hJ.1 72 6
  obtain ⟨eH, eC, bH, bC⟩ := t_n hJ
  have hA : 0 ≤ A.toInt ∧ A.toInt ≤ 16383 := by rw [eA]; exact all_b cH.1 cH.2
  have hall : ∀ h : Nat, h < nH s → bt A h = true := fun h hh => by
    rw [eA, b_all cH.1 (by omega) (by omega)]; exact decide_eq_true (by omega)
  have eAA : ((1 : Int32) <<< ((m.1 3 1) &&& 31)) - (1 : Int32) = A := by rw [eA, hL.1.2.1]
  intro n
  induction n with
  | zero => intro v2 v3 v4 v5 h0 h1 hn; have hz : ((0 : Nat) : Int) = 0 := rfl; omega
  | succ n ih =>
    intro v2 v3 v4 v5 h0 h1 hn hb hv
    have hnn : ((n + 1 : Nat) : Int) = (n : Int) + 1 := by omega
    have et := a_tn h0
    unfold fX11_men_25 fX2_everyHedge
    refine s_le (fun g => ?_) (fun g => ?_)
    · refine s_bd (zX5_tell v3 m hI) (fun m6 _ => s_ret ?_)
      show v4 = _
      rw [hv, show v5.toNatClampNeg = nH s by omega]
    · have e5 : (v5 + (1 : Int32)).toInt = v5.toInt + 1 := a_addl L1 (by omega) (by omega)
      have hs5 : (v5 + (1 : Int32)).toNatClampNeg = v5.toNatClampNeg + 1 := by
        have := a_tn (x := v5 + (1 : Int32)) (by omega)
        omega
      have hh : v5.toNatClampNeg < nH s := by omega
      obtain ⟨a1, b1, a2, b2, ab⟩ := t_ends hJ hC hh
      obtain ⟨q1, -⟩ := hL.row h0 (by omega)
      have e6 : (m.1 6 v5.toNatClampNeg).toNatClampNeg = ta s v5.toNatClampNeg := by rw [q1]; rfl
      have t6 : 0 ≤ (m.1 6 v5.toNatClampNeg).toInt ∧ (m.1 6 v5.toNatClampNeg).toInt < 10 := by rw [q1]; omega
      have h00 := b_has0 (x := v2) t6.1 (show (m.1 6 v5.toNatClampNeg).toInt < 32 by omega)
      rw [e6] at h00
      obtain ⟨l, hl, hl2, hl3⟩ := hPI _ a2
      refine s_ix (by omega) ?_
      refine s_if (fun q => ?_) (fun q => ?_)
      · -- a new part
        have hnew := h00.mp q
        refine s_ix (by omega) ?_
        rw [Option.bind_some, eAA]
        refine s_bd (s_hang hL hI hJ hC A (c := m.1 6 v5.toNatClampNeg) t6) (fun r12 h12 => ?_)
        rw [e6] at h12
        rw [e_bc, Option.bind_some]
        have hlf : smL s l v5.toNatClampNeg = false := by
          cases hq : smL s l v5.toNatClampNeg with
          | false => rfl
          | true =>
            obtain ⟨k, hk, e⟩ := smL_iff.mp hq
            obtain ⟨-, -, ak, -⟩ := t_ends hJ hC (h := k) (by omega)
            have := (hb (ta s v5.toNatClampNeg) (by omega)).mpr ⟨k, hk, (hPF _ _ ak a2).mp (by omega)⟩
            rw [hnew] at this; cases this
        -- the same odd corners
        obtain ⟨nl0, nl1, nl2⟩ := nI10 (b := l) (by omega)
        have nl3 : (nI l).toInt = (l : Int) := nI_toInt (by omega)
        obtain ⟨r, x, er, ex, hr, hx⟩ := e_part hJ hC hA (nI l)
        have hxo : x = r12 &&& odd := b_ext (fun v hv2 => by
          rw [hx v hv2, b_and, hO.2 v hv2]
          refine par_part (P := bt r12) (fun k hk => ?_)
          obtain ⟨-, -, ak, bk, -⟩ := t_ends hJ hC hk
          have e1 : bt r k = decide (tl s (ta s k) = (l : Int)) := by
            rw [hr k (by omega), decide_eq_true hk, hall k hk, Bool.true_and, Bool.true_and, nl3]
          have ed : tcn s A (ta s k) (tb s k) := cn.edge hk (hall k hk)
          have key : ∀ y, y < nC s → tcn s A (ta s k) y → bt r12 y = bt r k := fun y hy hc => by
            rw [e1]
            cases hq : bt r12 y with
            | true =>
              have c1 := (h12 y (by omega)).mp hq
              have c2 : tl s (ta s v5.toNatClampNeg) = tl s (ta s k) := (hPF _ _ a2 ak).mpr (c1.trans hc.symm)
              exact (decide_eq_true (by omega)).symm
            | false =>
              refine (decide_eq_false (fun z => ?_)).symm
              have c2 : tcn s A (ta s v5.toNatClampNeg) (ta s k) := (hPF _ _ a2 ak).mp (by omega)
              have := (h12 y (by omega)).mpr (c2.trans hc)
              rw [hq] at this; cases this
          exact ⟨key _ ak cn.refl, key _ bk ed⟩)
        refine ih _ (v3 + (1 : Int32)) _ (v5 + (1 : Int32)) (by omega) (by omega) (by omega) (fun i hi => ?_) ?_
        · rw [hs5, b_or]
          constructor
          · intro z
            rcases Bool.or_eq_true_iff.mp z with z | z
            · obtain ⟨k, hk, c⟩ := (hb i hi).mp z
              exact ⟨k, by omega, c⟩
            · exact ⟨v5.toNatClampNeg, by omega, (h12 i hi).mp z⟩
          · rintro ⟨k, hk, c⟩
            refine Bool.or_eq_true_iff.mpr ?_
            by_cases z : k = v5.toNatClampNeg
            · subst z; exact Or.inr ((h12 i hi).mpr c)
            · exact Or.inl ((hb i hi).mpr ⟨k, by omega, c⟩)
        · have ew : wmL s A l = wmv (r12 &&& odd) := by
            have := e_wmL (c := nI l) nl0 er ex
            rw [nl2, hxo] at this
            exact this
          rw [hs5, smv_add (S := fun c => smL s c v5.toNatClampNeg) (S' := fun c => smL s c (v5.toNatClampNeg + 1)) (l := l) hlf (fun c => ?_) (show l < nC s by omega), ew, ← hv]
          · rfl
          · show (smL s c v5.toNatClampNeg || decide (tl s (ta s v5.toNatClampNeg) = (c : Int))) = (smL s c v5.toNatClampNeg || decide (c = l))
            congr 1
            exact decide_eq_decide.mpr ⟨fun z => by omega, fun z => by omega⟩
      · -- seen already
        have hold : bt v2 (ta s v5.toNatClampNeg) = true := by
          cases hq : bt v2 (ta s v5.toNatClampNeg) with
          | true => rfl
          | false => exact absurd (h00.mpr hq) q
        obtain ⟨k0, hk0, c0⟩ := (hb _ (by omega)).mp hold
        refine ih v2 v3 v4 (v5 + (1 : Int32)) (by omega) (by omega) (by omega) (fun i hi => ?_) ?_
        · rw [hs5, hb i hi]
          constructor
          · rintro ⟨k, hk, c⟩; exact ⟨k, by omega, c⟩
          · rintro ⟨k, hk, c⟩
            by_cases z : k = v5.toNatClampNeg
            · subst z; exact ⟨k0, hk0, cn.trans c0 c⟩
            · exact ⟨k, by omega, c⟩
        · rw [hs5, hv]
          refine smv_cg (fun c _ => ?_)
          obtain ⟨-, -, ak, -⟩ := t_ends hJ hC (h := k0) (by omega)
          show smL s c v5.toNatClampNeg = (smL s c v5.toNatClampNeg || decide (tl s (ta s v5.toNatClampNeg) = (c : Int)))
          cases hq : smL s c v5.toNatClampNeg with
          | true => rfl
          | false =>
            refine (decide_eq_false (fun z => ?_)).symm
            have c2 : tl s (ta s k0) = tl s (ta s v5.toNatClampNeg) := (hPF _ _ ak a2).mpr c0
            have := smL_iff.mpr ⟨k0, hk0, show tl s (ta s k0) = (c : Int) by omega⟩
            rw [hq] at this; cases this
theorem tq_men {m s : sm_S} (hR : RX m s) (hI : zI m) (hJ : zI s) (hC : zC s) : TR (fun a b => a.1 = b.1) (fX11_men m) (fX12_men s) := by
  have l0 := L0
  have hfu := fuE
  have z0 : (0 : Int32).toNatClampNeg = 0 := by decide
  have F0 : Fr [(72, 0)] s (sm_w1 s 72 0 (0 : Int32)) := Fr.w Fr.refl rfl
  have i0 : zI (sm_w1 s 72 0 (0 : Int32)) := zI.w hJ rfl (show 0 ≤ (0 : Int32).toInt ∧ (0 : Int32).toInt ≤ 1 by omega)
  have hL0 : XL m (sm_w1 s 72 0 (0 : Int32)) := hR.2.1.fr (W := []) Fr.refl F0 rfl
  have hC0 : zC (sm_w1 s 72 0 (0 : Int32)) := hC.fr F0 rfl
  unfold fX11_men fX12_men fX2_everyHedge fX12_allHedges
  generalize sm_w1 s 72 0 (0 : Int32) = S0 at i0 hL0 hC0 ⊢
  have cH0 : 0 ≤ (S0.1 72 6).toInt ∧ (S0.1 72 6).toInt ≤ 14 := i0.1 72 6
  rw [Option.bind_some, Option.bind_some]
  refine tr_bd (zpu (((1 : Int32) <<< ((S0.1 72 6) &&& 31)) - (1 : Int32)) S0 (all_b cH0.1 cH0.2) i0 hC0) (fun m4 h4 => ?_)
  obtain ⟨j4, F4, pf, pi⟩ := h4
  have hL4 : XL m m4 := hL0.fr (W := []) Fr.refl F4 rfl
  have hC4 : zC m4 := hC0.fr F4 rfl
  have e6 : S0.1 72 6 = m4.1 72 6 := (F4 72 6 rfl).symm
  rw [e6] at pf pi
  obtain ⟨eH, eC, bH, bC⟩ := t_n j4
  have e31 := hL4.hedge
  refine tl_bd (s_oddv hL4 hI j4 hC4) (fun r4 h5 => ?_)
  have cls := v_men25 hL4 hI j4 hC4 (A := ((1 : Int32) <<< ((m4.1 72 6) &&& 31)) - (1 : Int32)) (odd := r4) rfl pf pi h5 sm_fu (0 : Int32) (0 : Int32) (0 : Int32) (0 : Int32) (by omega) (by omega) (by omega) (fun i _ => by
    rw [b_0, z0]
    exact ⟨fun z => (by cases z), fun ⟨k, hk, _⟩ => absurd hk (Nat.not_lt_zero _)⟩) (by
    rw [z0]
    have : ∀ C : Nat, smv (fun c => smL m4 c 0) (wmL m4 (((1 : Int32) <<< ((m4.1 72 6) &&& 31)) - (1 : Int32))) C = 0 := fun C => by
      induction C with
      | zero => rfl
      | succ C ih => rw [smv_f rfl, ih]
    exact (this _).symm)
  have ref := v_men19 j4 hC4 pi sm_fu (0 : Int32) (0 : Int32) (0 : Int32) (by omega) (by omega) (by omega) (by rw [z0]; rfl)
  exact t_sf cls ref (fun a b ha hb => ha.trans hb.symm)
