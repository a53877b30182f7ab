/-! TRAIL: labels of parts, odd corners, as the reference counts them -/
def ta (m : sm_S) : Nat → Nat := fun h => (m.1 76 h).toNatClampNeg
def tb (m : sm_S) : Nat → Nat := fun h => (m.1 77 h).toNatClampNeg
def nH (m : sm_S) : Nat := (m.1 72 6).toNatClampNeg
def nC (m : sm_S) : Nat := (m.1 72 3).toNatClampNeg
theorem t_n {m : sm_S} (hI : zI m) : ((nH m : Nat) : Int) = (m.1 72 6).toInt ∧ ((nC m : Nat) : Int) = (m.1 72 3).toInt ∧ nH m ≤ 14 ∧ nC m ≤ 10 := by
  have ch : 0 ≤ (m.1 72 6).toInt ∧ (m.1 72 6).toInt ≤ 14 := hI.1 72 6
  have cc : 0 ≤ (m.1 72 3).toInt ∧ (m.1 72 3).toInt ≤ 10 := hI.1 72 3
  have e1 := a_tn ch.1
  have e2 := a_tn cc.1
  unfold nH nC
  omega
theorem t_ends {m : sm_S} (hI : zI m) (hC : zC m) {h : Nat} (hh : h < nH m) : ((ta m h : Nat) : Int) = (m.1 76 h).toInt ∧ ((tb m h : Nat) : Int) = (m.1 77 h).toInt ∧ ta m h < nC m ∧ tb m h < nC m ∧ ta m h ≠ tb m h := by
  obtain ⟨e1, e2, -, -⟩ := t_n hI
  have hle := zI.le hI
  have q := zI.pfj hI h (by omega)
  have q2 := hC.1 h (by omega)
  have t1 := a_tn q.1
  have t2 := a_tn q.2.1
  unfold ta tb
  omega
/-- one turn of the labels -/
theorem turn {a b : Nat → Nat} {n C r T : Nat} {S : Nat → Bool} {l0 l1 : Nat → Int} (hends : ∀ h, h < n → S h = true → a h < C ∧ b h < C) (hM : ∀ y, y < C → l1 y ≤ l0 y) (hE : ∀ h, h < n → S h = true → l1 (a h) ≤ l0 (b h) ∧ l1 (b h) ≤ l0 (a h)) (p0 : ∀ y, y < C → ∃ k : Nat, l0 y = (k : Int) ∧ k ≤ y ∧ cn a b n S y k) (p1 : ∀ y, y < C → ∃ k : Nat, l1 y = (k : Int) ∧ k ≤ y ∧ cn a b n S y k) (hr : r < C) (hmin : ∀ y, y < C → cn a b n S r y → r ≤ y) (h0 : (∀ y, y < C → cn a b n S r y → l0 y = (r : Int)) ∨ T + 1 ≤ cnt (fun y => decide (l0 y = (r : Int))) C) : (∀ y, y < C → cn a b n S r y → l1 y = (r : Int)) ∨ T + 1 + 1 ≤ cnt (fun y => decide (l1 y = (r : Int))) C := by
  have low : ∀ y, y < C → cn a b n S r y → (r : Int) ≤ l1 y := by
    intro y hy hc
    obtain ⟨k, e, hk, hck⟩ := p1 y hy
    have := hmin k (by omega) (hc.trans hck)
    omega
  have of0 : ∀ y, y < C → l0 y = (r : Int) → cn a b n S r y := by
    intro y hy e
    obtain ⟨k, e2, hk, hck⟩ := p0 y hy
    have : k = r := by omega
    subst this
    exact hck.symm
  have keep : ∀ y, y < C → l0 y = (r : Int) → l1 y = (r : Int) := by
    intro y hy e
    have h1 := low y hy (of0 y hy e)
    have h2 := hM y hy
    omega
  rcases h0 with h0 | h0
  · exact Or.inl (fun y hy hc => keep y hy (h0 y hy hc))
  · by_cases full : ∀ y, y < C → cn a b n S r y → l1 y = (r : Int)
    · exact Or.inl full
    · refine Or.inr ?_
      have hr0 : l0 r = (r : Int) := by
        obtain ⟨k, e, hk, hck⟩ := p0 r hr
        have := hmin k (by omega) hck
        omega
      have ex : ∃ x, x < C ∧ l0 x ≠ (r : Int) ∧ l1 x = (r : Int) := by
        refine Classical.byContradiction (fun hno => full (fun y hy hc => ?_))
        have q := hc (fun x => decide (l0 x = (r : Int))) (fun h hh hs => by
          have he := hends h hh hs
          have hE' := hE h hh hs
          refine decide_eq_decide.mpr ⟨fun z => ?_, fun z => ?_⟩
          · refine Classical.byContradiction (fun q => hno ⟨b h, he.2, q, ?_⟩)
            have := low (b h) he.2 ((of0 (a h) he.1 z).trans (cn.edge hh hs))
            omega
          · refine Classical.byContradiction (fun q => hno ⟨a h, he.1, q, ?_⟩)
            have := low (a h) he.1 ((of0 (b h) he.2 z).trans (cn.edge hh hs).symm)
            omega)
        rw [decide_eq_true hr0] at q
        exact keep y hy (of_decide_eq_true q.symm)
      obtain ⟨x, hx, e0, e1⟩ := ex
      have := cnt_lt (p := fun y => decide (l0 y = (r : Int))) (q := fun y => decide (l1 y = (r : Int))) (n := C) x (fun k hk hp => decide_eq_true (keep k hk (of_decide_eq_true hp))) hx (decide_eq_false e0) (decide_eq_true e1)
      omega
theorem root {a b : Nat → Nat} {n C : Nat} {S : Nat → Bool} : ∀ x : Nat, x < C → ∃ r, r < C ∧ cn a b n S x r ∧ ∀ y, y < C → cn a b n S r y → r ≤ y := by
  intro x
  induction x using Nat.strongRecOn with
  | ind x ih =>
    intro hx
    by_cases h : ∃ y, y < x ∧ cn a b n S x y
    · obtain ⟨y, hy, hc⟩ := h
      obtain ⟨r, h1, h2, h3⟩ := ih y hy (by omega)
      exact ⟨r, h1, hc.trans h2, h3⟩
    · exact ⟨x, hx, cn.refl, fun y hy hc => Nat.le_of_not_lt (fun q => h ⟨y, q, hc⟩)⟩
def tl (m : sm_S) : Nat → Int := fun y => (m.1 94 y).toInt
def tcn (m : sm_S) (X : Int32) : Nat → Nat → Prop := cn (ta m) (tb m) (nH m) (bt X)
def tPI (m : sm_S) (X : Int32) : Prop := ∀ y, y < nC m → ∃ k : Nat, tl m y = (k : Int) ∧ k ≤ y ∧ tcn m X y k
def tQ (m : sm_S) (X : Int32) (T : Nat) : Prop := ∀ r, r < nC m → (∀ y, y < nC m → tcn m X r y → r ≤ y) → (∀ y, y < nC m → tcn m X r y → tl m y = (r : Int)) ∨ T + 1 ≤ cnt (fun y => decide (tl m y = (r : Int))) (nC m)
/-- parts have the same label just when they hang together -/
def tPF (m : sm_S) (X : Int32) : Prop := ∀ x y, x < nC m → y < nC m → (tl m x = tl m y ↔ tcn m X x y)
theorem tPF.of {m : sm_S} {X : Int32} {T : Nat} (hp : tPI m X) (hq : tQ m X T) (hT : nC m ≤ T) : tPF m X := by
  intro x y hx hy
  constructor
  · intro e
    obtain ⟨k, e1, -, c1⟩ := hp x hx
    obtain ⟨k2, e2, -, c2⟩ := hp y hy
    have : k = k2 := by omega
    subst this
    exact c1.trans c2.symm
  · intro hc
    obtain ⟨r, h1, h2, h3⟩ := root (a := ta m) (b := tb m) (n := nH m) (S := bt X) x hx
    rcases hq r h1 h3 with q | q
    · rw [q x hx h2.symm, q y hy (h2.symm.trans hc)]
    · have := cnt_le (fun y => decide (tl m y = (r : Int))) (nC m)
      omega
theorem zpt_35 (m0 : sm_S) (X : Int32) (k25 : Int32 → Int32 → sm_S → Option sm_S) (N25 : Nat) (hk : ∀ (v2 : Int32) (m : sm_S), (0 ≤ v2.toInt ∧ v2.toInt ≤ 10 ∧ 10 - v2.toInt < (N25 : Int)) → zI m → zC m → tPI m X → tQ m X v2.toNatClampNeg → Fr wX12_parts m0 m → Sf (fun r => zI r ∧ Fr wX12_parts m0 r ∧ tPF r X) (k25 X v2 m)) (hX : 0 ≤ X.toInt ∧ X.toInt ≤ 16383) (l0 : Nat → Int) : ∀ (n : Nat) (v2 v3 : Int32) (m : sm_S), (0 ≤ v2.toInt ∧ v2.toInt ≤ 9 ∧ 0 ≤ v3.toInt ∧ v3.toInt ≤ (nH m : Int) ∧ 14 - v3.toInt < (n : Int) ∧ 10 - v2.toInt ≤ (N25 : Int)) → (∀ y, y < nC m → tl m y ≤ l0 y) → (∀ h : Nat, (h : Int) < v3.toInt → bt X h = true → tl m (ta m h) ≤ l0 (tb m h) ∧ tl m (tb m h) ≤ l0 (ta m h)) → (∀ y, y < nC m → ∃ k : Nat, l0 y = (k : Int) ∧ k ≤ y ∧ tcn m X y k) → tPI m X → (∀ r, r < nC m → (∀ y, y < nC m → tcn m X r y → r ≤ y) → (∀ y, y < nC m → tcn m X r y → l0 y = (r : Int)) ∨ v2.toNatClampNeg + 1 ≤ cnt (fun y => decide (l0 y = (r : Int))) (nC m)) → zI m → zC m → Fr wX12_parts m0 m → Sf (fun r => zI r ∧ Fr wX12_parts m0 r ∧ tPF r X) (fX12_parts_35 k25 n X v2 v3 m) := by
  intro n
  induction n with
  | zero =>
    intro v2 v3 m hp hM hE h0 hP hQ hI hC hF
    have := t_n hI
    omega
  | succ n ih =>
    intro v2 v3 m hp hM hE h0 hP hQ hI hC hF
    have hnn : ((n + 1 : Nat) : Int) = (n : Int) + 1 := by omega
    have l00 := L0
    obtain ⟨eH, eC, bH, bC⟩ := t_n hI
    have e1 : (v3 + (1 : Int32)).toInt = v3.toInt + 1 := a_addl L1 (by omega) (by omega)
    unfold fX12_parts_35
    refine s_le (fun h3 => ?_) (fun h3 => ?_)
    · have e2 : (v2 + (1 : Int32)).toInt = v2.toInt + 1 := a_addl L1 (by omega) (by omega)
      have t2 := a_tn (x := v2) (by omega)
      have t3 := a_tn (x := v2 + (1 : Int32)) (by omega)
      refine hk (v2 + (1 : Int32)) m (by omega) hI hC hP (fun r hr hmin => ?_) hF
      have := turn (a := ta m) (b := tb m) (n := nH m) (C := nC m) (S := bt X) (l0 := l0) (l1 := tl m) (T := v2.toNatClampNeg) (fun h hh _ => ⟨(t_ends hI hC hh).2.2.1, (t_ends hI hC hh).2.2.2.1⟩) hM (fun h hh hs => hE h (by omega) hs) h0 hP hr hmin (hQ r hr hmin)
      rw [show (v2 + (1 : Int32)).toNatClampNeg = v2.toNatClampNeg + 1 by omega]
      exact this
    · have x14 : 0 ≤ v3.toInt ∧ v3.toInt < (14 : Int) := by omega
      have t3 := a_tn (x := v3) x14.1
      have hv : v3.toNatClampNeg < nH m := by omega
      obtain ⟨a1, b1, a2, b2, ab⟩ := t_ends hI hC hv
      refine s_bd (zX12_has2 X v3 m (by omega)) (fun r2 h2 => ?_)
      refine s_eq (fun h4 => ?_) (fun h4 => ?_)
      · refine ih v2 (v3 + (1 : Int32)) m (by omega) hM (fun h hh hs => ?_) h0 hP hQ hI hC hF
        by_cases e : h = v3.toNatClampNeg
        · subst e; rw [has_f h2 (by omega)] at hs; cases hs
        · exact hE h (by omega) hs
      · have hb := has_t h2 (by omega)
        have xa : 0 ≤ (m.1 76 v3.toNatClampNeg).toInt ∧ (m.1 76 v3.toNatClampNeg).toInt < (10 : Int) := by omega
        have xb : 0 ≤ (m.1 77 v3.toNatClampNeg).toInt ∧ (m.1 77 v3.toNatClampNeg).toInt < (10 : Int) := by omega
        refine s_ix x14 (s_ix xa (s_ix x14 (s_ix xb (s_ix x14 (s_ix xa (s_ix x14 (s_ix xb ?_)))))))
        have hmn := a_ilt (x := m.1 94 (m.1 77 v3.toNatClampNeg).toNatClampNeg) (y := m.1 94 (m.1 76 v3.toNatClampNeg).toNatClampNeg) (a := m.1 94 (m.1 77 v3.toNatClampNeg).toNatClampNeg) (b := m.1 94 (m.1 76 v3.toNatClampNeg).toNatClampNeg)
        have q94 : ∀ y, 0 ≤ (m.1 94 y).toInt ∧ (m.1 94 y).toInt ≤ 9 := fun y => hI.1 94 y
        have qa := q94 (m.1 76 v3.toNatClampNeg).toNatClampNeg
        have qb := q94 (m.1 77 v3.toNatClampNeg).toNatClampNeg
        have key : ∀ w : Int32, w.toInt = min (tl m (ta m v3.toNatClampNeg)) (tl m (tb m v3.toNatClampNeg)) → Sf (fun r => zI r ∧ Fr wX12_parts m0 r ∧ tPF r X) (fX12_parts_35 k25 n X v2 (v3 + (1 : Int32)) (sm_w1 (sm_w1 m 94 (m.1 76 v3.toNatClampNeg).toNatClampNeg w) 94 (m.1 77 v3.toNatClampNeg).toNatClampNeg w)) := by
          intro w hw
          have qta : tl m (ta m v3.toNatClampNeg) = (m.1 94 (m.1 76 v3.toNatClampNeg).toNatClampNeg).toInt := rfl
          have qtb : tl m (tb m v3.toNatClampNeg) = (m.1 94 (m.1 77 v3.toNatClampNeg).toNatClampNeg).toInt := rfl
          have lab : ∀ y, tl (sm_w1 (sm_w1 m 94 (m.1 76 v3.toNatClampNeg).toNatClampNeg w) 94 (m.1 77 v3.toNatClampNeg).toNatClampNeg w) y = if y = ta m v3.toNatClampNeg ∨ y = tb m v3.toNatClampNeg then w.toInt else tl m y := by
            intro y
            unfold tl
            by_cases e2 : y = tb m v3.toNatClampNeg
            · rw [if_pos (Or.inr e2), e2]; exact congrArg Int32.toInt r_hit
            · rw [r_place (show y ≠ (m.1 77 v3.toNatClampNeg).toNatClampNeg from e2)]
              by_cases e3 : y = ta m v3.toNatClampNeg
              · rw [if_pos (Or.inl e3), e3]; exact congrArg Int32.toInt r_hit
              · rw [if_neg (fun z => z.elim e3 e2), r_place (show y ≠ (m.1 76 v3.toNatClampNeg).toNatClampNeg from e3)]
          have labM : ∀ y, tl (sm_w1 (sm_w1 m 94 (m.1 76 v3.toNatClampNeg).toNatClampNeg w) 94 (m.1 77 v3.toNatClampNeg).toNatClampNeg w) y ≤ tl m y := by
            intro y
            rw [lab y]
            by_cases e : y = ta m v3.toNatClampNeg ∨ y = tb m v3.toNatClampNeg
            · rw [if_pos e]
              rcases e with e | e <;> rw [e] <;> omega
            · rw [if_neg e]; exact Int.le_refl _
          have hMa := hM (ta m v3.toNatClampNeg) a2
          have hMb := hM (tb m v3.toNatClampNeg) b2
          have f2 : Fr [(94, 999)] m (sm_w1 (sm_w1 m 94 (m.1 76 v3.toNatClampNeg).toNatClampNeg w) 94 (m.1 77 v3.toNatClampNeg).toNatClampNeg w) := Fr.w (Fr.w Fr.refl rfl) rfl
          have hw9 : 0 ≤ w.toInt ∧ w.toInt ≤ 9 := by omega
          refine ih v2 (v3 + (1 : Int32)) _ (show _ ∧ _ ∧ _ ∧ (v3 + (1 : Int32)).toInt ≤ (nH m : Int) ∧ _ ∧ _ by omega) (fun y hy => Int.le_trans (labM y) (hM y hy)) (fun h hh hs => ?_) h0 (fun y hy => ?_) hQ (zI.w (zI.w hI rfl hw9) rfl hw9) (zC.fr hC f2 rfl) (Fr.w (Fr.w hF rfl) rfl)
          · show tl (sm_w1 (sm_w1 m 94 (m.1 76 v3.toNatClampNeg).toNatClampNeg w) 94 (m.1 77 v3.toNatClampNeg).toNatClampNeg w) (ta m h) ≤ l0 (tb m h) ∧ tl (sm_w1 (sm_w1 m 94 (m.1 76 v3.toNatClampNeg).toNatClampNeg w) 94 (m.1 77 v3.toNatClampNeg).toNatClampNeg w) (tb m h) ≤ l0 (ta m h)
            by_cases e : h = v3.toNatClampNeg
            · subst e
              rw [lab, lab, if_pos (Or.inl rfl), if_pos (Or.inr rfl)]
              omega
            · have q := hE h (by omega) hs
              exact ⟨Int.le_trans (labM _) q.1, Int.le_trans (labM _) q.2⟩
          · show ∃ k : Nat, tl (sm_w1 (sm_w1 m 94 (m.1 76 v3.toNatClampNeg).toNatClampNeg w) 94 (m.1 77 v3.toNatClampNeg).toNatClampNeg w) y = (k : Int) ∧ k ≤ y ∧ tcn m X y k
            rw [lab y]
            obtain ⟨ka, ea, la, ca⟩ := hP _ a2
            obtain ⟨kb, eb, lb, cb⟩ := hP _ b2
            have hed : tcn m X (ta m v3.toNatClampNeg) (tb m v3.toNatClampNeg) := cn.edge hv hb
            by_cases e : y = ta m v3.toNatClampNeg ∨ y = tb m v3.toNatClampNeg
            · rw [if_pos e]
              obtain ⟨ky, ey, ly, cy⟩ := hP y hy
              by_cases q : tl m (ta m v3.toNatClampNeg) ≤ tl m (tb m v3.toNatClampNeg)
              · refine ⟨ka, by omega, ?_, ?_⟩
                · rcases e with e | e
                  · subst e; omega
                  · subst e; omega
                · rcases e with e | e
                  · rw [e]; exact ca
                  · rw [e]; exact hed.symm.trans ca
              · refine ⟨kb, by omega, ?_, ?_⟩
                · rcases e with e | e
                  · subst e; omega
                  · subst e; omega
                · rcases e with e | e
                  · rw [e]; exact hed.trans cb
                  · rw [e]; exact cb
            · rw [if_neg e]; exact hP y hy
        refine key _ ?_
        show _ = min (m.1 94 (m.1 76 v3.toNatClampNeg).toNatClampNeg).toInt (m.1 94 (m.1 77 v3.toNatClampNeg).toNatClampNeg).toInt
        omega
theorem zpt_25 (m0 : sm_S) (X : Int32) (hX : 0 ≤ X.toInt ∧ X.toInt ≤ 16383) : ∀ (n : Nat) (v2 : Int32) (m : sm_S), (0 ≤ v2.toInt ∧ v2.toInt ≤ 10 ∧ 10 - v2.toInt < (n : Int)) → zI m → zC m → tPI m X → tQ m X v2.toNatClampNeg → Fr wX12_parts m0 m → Sf (fun r => zI r ∧ Fr wX12_parts m0 r ∧ tPF r X) (fX12_parts_25 n X v2 m) := by
  intro n
  induction n with
  | zero => intro v2 m hp hI hC hP hQ hF; omega
  | succ n ih =>
    intro v2 m hp hI hC hP hQ hF
    have hnn : ((n + 1 : Nat) : Int) = (n : Int) + 1 := by omega
    have hfu := fuE
    have l0 := L0
    obtain ⟨eH, eC, bH, bC⟩ := t_n hI
    have t2 := a_tn (x := v2) (by omega)
    unfold fX12_parts_25
    refine s_le (fun h3 => s_ret ⟨hI, hF, tPF.of hP hQ (by omega)⟩) (fun h3 => ?_)
    exact zpt_35 m0 X (fX12_parts_25 n) n ih hX (tl m) sm_fu v2 (0 : Int32) m (by omega) (fun y _ => Int.le_refl _) (fun h hh _ => by omega) hP hP hQ hI hC hF
theorem zpt_2 (m0 : sm_S) (X : Int32) (hX : 0 ≤ X.toInt ∧ X.toInt ≤ 16383) : ∀ (n : Nat) (v2 : Int32) (m : sm_S), (0 ≤ v2.toInt ∧ v2.toInt ≤ (nC m : Int) ∧ 10 - v2.toInt < (n : Int)) → (∀ y : Nat, (y : Int) < v2.toInt → tl m y = (y : Int)) → zI m → zC m → Fr wX12_parts m0 m → Sf (fun r => zI r ∧ Fr wX12_parts m0 r ∧ tPF r X) (fX12_parts_2 n X v2 m) := by
  intro n
  induction n with
  | zero =>
    intro v2 m hp hy hI hC hF
    have := t_n hI
    omega
  | succ n ih =>
    intro v2 m hp hy hI hC hF
    have hnn : ((n + 1 : Nat) : Int) = (n : Int) + 1 := by omega
    have hfu := fuE
    have l0 := L0
    obtain ⟨eH, eC, bH, bC⟩ := t_n hI
    unfold fX12_parts_2
    refine s_le (fun h3 => ?_) (fun h3 => ?_)
    · have t0 : (0 : Int32).toNatClampNeg = 0 := rfl
      refine zpt_25 m0 X hX sm_fu (0 : Int32) m (by omega) hI hC (fun y hy2 => ⟨y, hy y (by omega), Nat.le_refl _, cn.refl⟩) (fun r hr _ => Or.inr ?_) hF
      rw [t0]
      have := cnt_lt (p := fun _ => false) (q := fun y => decide (tl m y = (r : Int))) (n := nC m) r (fun _ _ h => by cases h) hr rfl (decide_eq_true (hy r (by omega)))
      omega
    · have hx : 0 ≤ v2.toInt ∧ v2.toInt < (10 : Int) := by omega
      have e1 : (v2 + (1 : Int32)).toInt = v2.toInt + 1 := a_addl L1 (by omega) (by omega)
      have t2 := a_tn hx.1
      have f2 : Fr [(94, 999)] m (sm_w1 m 94 v2.toNatClampNeg v2) := Fr.w Fr.refl rfl
      refine s_ix hx (ih (v2 + (1 : Int32)) _ (show _ ∧ (v2 + (1 : Int32)).toInt ≤ (nC m : Int) ∧ _ by omega) (fun y hq => ?_) (zI.w hI rfl (show 0 ≤ v2.toInt ∧ v2.toInt ≤ 9 by omega)) (zC.fr hC f2 rfl) (Fr.w hF rfl))
      unfold tl
      by_cases e : y = v2.toNatClampNeg
      · rw [e, r_hit]; omega
      · rw [r_place e]; exact hy y (by omega)
theorem zpt (X : Int32) (m : sm_S) (hX : 0 ≤ X.toInt ∧ X.toInt ≤ 16383) (hI : zI m) (hC : zC m) : Sf (fun r => zI r ∧ Fr wX12_parts m r ∧ tPF r X) (fX12_parts X m) := by
  have hfu := fuE
  have l0 := L0
  unfold fX12_parts
  exact zpt_2 m X hX sm_fu (0 : Int32) m (by omega) (fun y hq => by omega) hI hC Fr.refl
/-! odd corners -/
theorem zod_4 : ∀ (n : Nat) (v1 v2 v3 : Int32) (m : sm_S), (0 ≤ v1.toInt ∧ v1.toInt ≤ 16383 ∧ 0 ≤ v3.toInt ∧ v3.toInt ≤ (nH m : Int) ∧ 14 - v3.toInt < (n : Int)) → (∀ v, v < 32 → bt v2 v = par (ta m) (tb m) (bt v1) v v3.toNatClampNeg) → zI m → zC m → Sf (fun r => ∀ v, v < 32 → bt r v = par (ta m) (tb m) (bt v1) v (nH m)) (fX12_oddOf_4 n v1 v2 v3 m) := by
  intro n
  induction n with
  | zero =>
    intro v1 v2 v3 m hp hb hI hC
    have := t_n hI
    omega
  | succ n ih =>
    intro v1 v2 v3 m hp hb hI hC
    have hnn : ((n + 1 : Nat) : Int) = (n : Int) + 1 := by omega
    have l0 := L0
    obtain ⟨eH, eC, bH, bC⟩ := t_n hI
    have t3 := a_tn (x := v3) (by omega)
    unfold fX12_oddOf_4
    refine s_le (fun h3 => s_ret ?_) (fun h3 => ?_)
    · rw [show nH m = v3.toNatClampNeg by omega]; exact hb
    · have e1 : (v3 + (1 : Int32)).toInt = v3.toInt + 1 := a_addl L1 (by omega) (by omega)
      have t4 := a_tn (x := v3 + (1 : Int32)) (by omega)
      have et : (v3 + (1 : Int32)).toNatClampNeg = v3.toNatClampNeg + 1 := by omega
      have hv : v3.toNatClampNeg < nH m := by omega
      obtain ⟨a1, b1, a2, b2, ab⟩ := t_ends hI hC hv
      have x14 : 0 ≤ v3.toInt ∧ v3.toInt < (14 : Int) := by omega
      refine s_bd (zX12_has2 v1 v3 m (by omega)) (fun r2 h2 => ?_)
      refine s_eq (fun h4 => ?_) (fun h4 => ?_)
      · refine ih v1 _ (v3 + (1 : Int32)) m (by omega) (fun v hv2 => ?_) hI hC
        rw [et, b_xor, b_0, Bool.xor_false, hb v hv2]
        show _ = (par (ta m) (tb m) (bt v1) v v3.toNatClampNeg ^^ (bt v1 v3.toNatClampNeg && _))
        rw [has_f h2 (by omega), Bool.false_and, Bool.xor_false]
      · refine s_ix x14 (s_ix x14 (ih v1 _ (v3 + (1 : Int32)) m (by omega) (fun v hv2 => ?_) hI hC))
        rw [et, b_xor, b_xor, b_pow (by omega) (by omega) hv2, b_pow (by omega) (by omega) hv2, hb v hv2]
        show _ = (par (ta m) (tb m) (bt v1) v v3.toNatClampNeg ^^ (bt v1 v3.toNatClampNeg && (decide (ta m v3.toNatClampNeg = v) ^^ decide (tb m v3.toNatClampNeg = v))))
        rw [has_t h2 (by omega), Bool.true_and, show decide (v = (m.1 76 v3.toNatClampNeg).toNatClampNeg) = decide (ta m v3.toNatClampNeg = v) from decide_eq_decide.mpr ⟨Eq.symm, Eq.symm⟩, show decide (v = (m.1 77 v3.toNatClampNeg).toNatClampNeg) = decide (tb m v3.toNatClampNeg = v) from decide_eq_decide.mpr ⟨Eq.symm, Eq.symm⟩]
theorem zod (X : Int32) (m : sm_S) (hX : 0 ≤ X.toInt ∧ X.toInt ≤ 16383) (hI : zI m) (hC : zC m) : Sf (fun r => (0 ≤ r.toInt ∧ r.toInt ≤ 1023) ∧ ∀ v, v < 32 → bt r v = par (ta m) (tb m) (bt X) v (nH m)) (fX12_oddOf X m) := by
  have hfu := fuE
  have l0 := L0
  obtain ⟨r, e, hr⟩ := zX12_oddOf X m (by omega) hI
  have t0 : (0 : Int32).toNatClampNeg = 0 := rfl
  have key : Sf (fun r => ∀ v, v < 32 → bt r v = par (ta m) (tb m) (bt X) v (nH m)) (fX12_oddOf X m) := by
    unfold fX12_oddOf
    exact zod_4 sm_fu X (0 : Int32) (0 : Int32) m (by omega) (fun v _ => by rw [t0, b_0]; rfl) hI hC
  obtain ⟨r', e', hr'⟩ := key
  have : r' = r := Option.some.inj (e'.symm.trans e)
  subst this
  exact ⟨r', e, hr, hr'⟩
/-! the hedges of a part -/
theorem zpo_5 : ∀ (n : Nat) (v1 v2 v3 v4 : Int32) (m : sm_S), (0 ≤ v2.toInt ∧ v2.toInt ≤ 16383 ∧ 0 ≤ v4.toInt ∧ v4.toInt ≤ (nH m : Int) ∧ 14 - v4.toInt < (n : Int)) → (∀ i, i < 32 → bt v3 i = (decide ((i : Int) < v4.toInt) && (bt v2 i && decide (tl m (ta m i) = v1.toInt)))) → zI m → zC m → Sf (fun r => ∀ i, i < 32 → bt r i = (decide (i < nH m) && (bt v2 i && decide (tl m (ta m i) = v1.toInt)))) (fX12_partOfHedges_5 n v1 v2 v3 v4 m) := by
  intro n
  induction n with
  | zero =>
    intro v1 v2 v3 v4 m hp hb hI hC
    have := t_n hI
    omega
  | succ n ih =>
    intro v1 v2 v3 v4 m hp hb hI hC
    have hnn : ((n + 1 : Nat) : Int) = (n : Int) + 1 := by omega
    have l0 := L0
    obtain ⟨eH, eC, bH, bC⟩ := t_n hI
    have t3 := a_tn (x := v4) (by omega)
    unfold fX12_partOfHedges_5
    refine s_le (fun h3 => s_ret (fun i hi => ?_)) (fun h3 => ?_)
    · rw [hb i hi, show decide ((i : Int) < v4.toInt) = decide (i < nH m) from decide_eq_decide.mpr (by omega)]
    · have e1 : (v4 + (1 : Int32)).toInt = v4.toInt + 1 := a_addl L1 (by omega) (by omega)
      have hv : v4.toNatClampNeg < nH m := by omega
      obtain ⟨a1, b1, a2, b2, ab⟩ := t_ends hI hC hv
      have x14 : 0 ≤ v4.toInt ∧ v4.toInt < (14 : Int) := by omega
      have grow : ∀ (i : Nat) (z : Bool), i < 32 → (i = v4.toNatClampNeg → z = (bt v2 i && decide (tl m (ta m i) = v1.toInt))) → (i ≠ v4.toNatClampNeg → z = false) → (bt v3 i || z) = (decide ((i : Int) < (v4 + (1 : Int32)).toInt) && (bt v2 i && decide (tl m (ta m i) = v1.toInt))) := by
        intro i z hi h1 h2
        rw [hb i hi]
        by_cases e : i = v4.toNatClampNeg
        · rw [h1 e, decide_eq_false (show ¬ (i : Int) < v4.toInt by omega), decide_eq_true (show (i : Int) < (v4 + (1 : Int32)).toInt by omega), Bool.false_and, Bool.false_or, Bool.true_and]
        · rw [h2 e, Bool.or_false, show decide ((i : Int) < v4.toInt) = decide ((i : Int) < (v4 + (1 : Int32)).toInt) from decide_eq_decide.mpr (by omega)]
      refine s_bd (zX12_has2 v2 v4 m (by omega)) (fun r2 h2 => ?_)
      refine s_eq (fun h4 => ?_) (fun h4 => ?_)
      · refine ih v1 v2 _ (v4 + (1 : Int32)) m (by omega) (fun i hi => ?_) hI hC
        rw [b_or, b_0]
        exact grow i false hi (fun e => by rw [e, has_f h2 (by omega), Bool.false_and]) (fun _ => rfl)
      · have xa : 0 ≤ (m.1 76 v4.toNatClampNeg).toInt ∧ (m.1 76 v4.toNatClampNeg).toInt < (10 : Int) := by omega
        have hbt := has_t h2 (by omega)
        refine s_ix x14 (s_ix xa (s_eq (fun h5 => ?_) (fun h5 => ?_)))
        · refine ih v1 v2 _ (v4 + (1 : Int32)) m (by omega) (fun i hi => ?_) hI hC
          rw [b_or, b_pow (by omega) (by omega) hi]
          refine grow i _ hi (fun e => ?_) (fun e => decide_eq_false e)
          rw [e, hbt, decide_eq_true rfl, Bool.true_and]
          exact (decide_eq_true (show tl m (ta m v4.toNatClampNeg) = v1.toInt from h5)).symm
        · refine ih v1 v2 _ (v4 + (1 : Int32)) m (by omega) (fun i hi => ?_) hI hC
          rw [b_or, b_0]
          refine grow i false hi (fun e => ?_) (fun _ => rfl)
          rw [e, hbt, Bool.true_and]
          exact (decide_eq_false (show ¬ tl m (ta m v4.toNatClampNeg) = v1.toInt from h5)).symm
theorem zpo (v1 X : Int32) (m : sm_S) (hX : 0 ≤ X.toInt ∧ X.toInt ≤ 16383) (hI : zI m) (hC : zC m) : Sf (fun r => ∀ i, i < 32 → bt r i = (decide (i < nH m) && (bt X i && decide (tl m (ta m i) = v1.toInt)))) (fX12_partOfHedges v1 X m) := by
  have hfu := fuE
  have l0 := L0
  unfold fX12_partOfHedges
  exact zpo_5 sm_fu v1 X (0 : Int32) (0 : Int32) m (by omega) (fun i _ => by rw [b_0, decide_eq_false (by omega), Bool.false_and]) hI hC
