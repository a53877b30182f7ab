/-! THE HEDGE TO BE HEARD NEXT -/
/-- how many ways below w have c cows over a hedge -/
def tly (m : sm_S) (h : Int32) (c w : Nat) : Nat := cnt (fun u => okB m u && decide ((ovw m (nI u) h).toInt = (c : Int))) w
theorem tly.le (m : sm_S) (h : Int32) (c w : Nat) : tly m h c w ≤ w := cnt_le _ _
theorem tly.s (m : sm_S) (h : Int32) (c w : Nat) : tly m h c (w + 1) = tly m h c w + (if (okB m w && decide ((ovw m (nI w) h).toInt = (c : Int))) = true then 1 else 0) := rfl
def MXp (m : sm_S) (h : Int32) (w : Nat) (M : Int) : Prop := (∀ c : Nat, c < 7 → ((tly m h c w : Nat) : Int) ≤ M) ∧ (M = 0 ∨ ∃ c : Nat, c < 7 ∧ M = ((tly m h c w : Nat) : Int))
theorem MXp.eq {m : sm_S} {h : Int32} {w : Nat} {M N : Int} (h1 : MXp m h w M) (h2 : MXp m h w N) : M = N := by
  have a := h1.1 0 (by decide)
  have b := h2.1 0 (by decide)
  have c1 : M ≤ N := by
    rcases h1.2 with q | ⟨c, hc, q⟩
    · omega
    · have := h2.1 c hc; omega
  have c2 : N ≤ M := by
    rcases h2.2 with q | ⟨c, hc, q⟩
    · omega
    · have := h1.1 c hc; omega
  omega
theorem ovw.b {m : sm_S} (hI : zI m) {h w : Int32} (hh : 0 ≤ h.toInt ∧ h.toInt ≤ 13) (hw : 0 ≤ w.toInt ∧ w.toInt ≤ 4095) : 0 ≤ (ovw m w h).toInt ∧ (ovw m w h).toInt ≤ 6 := by
  obtain ⟨r, er, h1, h2⟩ := zX0_cowsOver h w m (by omega) hI
  rw [e_over11 (by omega)] at er
  obtain rfl := Option.some.inj er
  exact ⟨h1, h2⟩
theorem ovw.fr {m m' : sm_S} (F : Fr [(51, 1), (14, 1), (15, 999), (55, 999)] m m') (w h : Int32) : ovw m' w h = ovw m w h := by
  unfold ovw
  rw [F 9 _ rfl, F 10 _ rfl]
theorem MXp.pos {m : sm_S} (hI : zI m) {h : Int32} (hh : 0 ≤ h.toInt ∧ h.toInt ≤ 13) {M : Int} (hM : MXp m h 4096 M) (hc : 0 < cnt (okB m) 4096) : 1 ≤ M ∧ M ≤ 4096 := by
  refine ⟨?_, ?_⟩
  · by_cases q : 1 ≤ M
    · exact q
    · exfalso
      have key : ∀ w, w ≤ 4096 → (∀ c, c < 7 → tly m h c w = 0) → cnt (okB m) w = 0 := by
        intro w
        induction w with
        | zero => intro _ _; rfl
        | succ w ih =>
          intro hw hz
          have hz2 : ∀ c, c < 7 → tly m h c w = 0 := fun c hc => by have := hz c hc; rw [tly.s] at this; omega
          have i1 := ih (by omega) hz2
          have e : cnt (okB m) (w + 1) = cnt (okB m) w + (if okB m w = true then 1 else 0) := rfl
          cases hk : okB m w with
          | false => rw [e, hk, if_neg (by decide)]; omega
          | true =>
            have ew : (nI w).toInt = (w : Int) := nI_toInt (by omega)
            have b := ovw.b hI (h := h) (w := nI w) hh (by omega)
            have e1 : (((ovw m (nI w) h).toNatClampNeg : Nat) : Int) = (ovw m (nI w) h).toInt := a_tn b.1
            have := hz (ovw m (nI w) h).toNatClampNeg (by omega)
            rw [tly.s, hk, decide_eq_true e1.symm, if_pos (show (true && true) = true from rfl)] at this
            omega
      have z : ∀ c, c < 7 → tly m h c 4096 = 0 := fun c hc => by have := hM.1 c hc; omega
      have := key 4096 (Nat.le_refl _) z
      omega
  · rcases hM.2 with q | ⟨c, _, q⟩
    · omega
    · have := tly.le m h c 4096; omega
theorem v_most (m0 : sm_S) (hI0 : zI m0) (h : Int32) (hh : 0 ≤ h.toInt ∧ h.toInt ≤ 13) : ∀ (n : Nat) (v3 v4 : Int32) (m : sm_S), zI m → Fr [(51, 1), (14, 1), (15, 999), (55, 999)] m0 m → (∀ w : Nat, w < 4096 → fnd m w = okB m0 w) → 0 ≤ v4.toInt → v4.toInt ≤ 4096 → 4096 - v4.toInt < (n : Int) → (∀ c : Nat, c < 7 → (m.1 55 c).toInt = ((tly m0 h c v4.toNatClampNeg : Nat) : Int)) → MXp m0 h v4.toNatClampNeg v3.toInt → Sf (fun r => MXp m0 h 4096 r.1.toInt ∧ zI r.2 ∧ Fr [(51, 1), (14, 1), (15, 999), (55, 999)] m0 r.2 ∧ r.2.2 = m.2) (fX0_mostLeft_26 n h v3 v4 m) := by
  have l0 := L0
  have l1 := L1
  have l4096 := L4096
  intro n
  induction n with
  | zero => intro v3 v4 m hI F hf h0 h1 hn; have hz : ((0 : Nat) : Int) = 0 := rfl; omega
  | succ n ih =>
    intro v3 v4 m hI F hf h0 h1 hn ht hM
    have hnn : ((n + 1 : Nat) : Int) = (n : Int) + 1 := by omega
    have et := a_tn h0
    unfold fX0_mostLeft_26
    refine s_le (fun g => s_ret ⟨?_, hI, F, rfl⟩) (fun g => ?_)
    · have e : v4.toNatClampNeg = 4096 := by omega
      rw [e] at hM; exact hM
    · have e4 : (v4 + (1 : Int32)).toInt = v4.toInt + 1 := a_addl L1 (by omega) (by omega)
      have hs : (v4 + (1 : Int32)).toNatClampNeg = v4.toNatClampNeg + 1 := by
        have := a_tn (x := v4 + (1 : Int32)) (by omega)
        omega
      rw [e_isFound h0 (by omega), Option.bind_some, hf _ (by omega)]
      cases hk : okB m0 v4.toNatClampNeg with
      | false =>
        rw [if_pos (show (if (false = true) then (1 : Int32) else 0) = 0 from rfl)]
        have hz : ∀ c, tly m0 h c (v4.toNatClampNeg + 1) = tly m0 h c v4.toNatClampNeg := fun c => by rw [tly.s, hk]; simp
        refine ih v3 (v4 + (1 : Int32)) m hI F hf (by omega) (by omega) (by omega) (fun c hc => ?_) ?_
        · rw [hs, hz]; exact ht c hc
        · rw [hs]
          unfold MXp
          refine ⟨fun c hc => ?_, ?_⟩
          · rw [hz]; exact hM.1 c hc
          · rcases hM.2 with q | ⟨c, hc, q⟩
            · exact Or.inl q
            · exact Or.inr ⟨c, hc, by rw [hz]; exact q⟩
      | true =>
        rw [if_neg (show ¬ ((if (true = true) then (1 : Int32) else 0) = 0) by decide), e_over11 (by omega), Option.bind_some]
        have b := ovw.b hI (h := h) (w := v4) hh (by omega)
        have eo : ovw m v4 h = ovw m0 v4 h := ovw.fr F v4 h
        have hx : 0 ≤ (ovw m v4 h).toInt ∧ (ovw m v4 h).toInt < ((7 : Nat) : Int) := by omega
        refine s_ix hx (s_ix hx (s_ix hx ?_))
        rw [r_hit]
        have ec := a_tn b.1
        generalize hcc : (ovw m v4 h).toNatClampNeg = c0 at ec
        have hc0 : c0 < 7 := by omega
        have t0 := ht c0 hc0
        have tl := tly.le m0 h c0 v4.toNatClampNeg
        have e55 : ((m.1 55 c0) + (1 : Int32)).toInt = (m.1 55 c0).toInt + 1 := a_addl L1 (by omega) (by omega)
        have hn2 : nI v4.toNatClampNeg = v4 := (a_nI h0).symm
        have eq0 : (ovw m0 v4 h).toInt = (c0 : Int) := by rw [← eo]; omega
        have hz1 : tly m0 h c0 (v4.toNatClampNeg + 1) = tly m0 h c0 v4.toNatClampNeg + 1 := by
          rw [tly.s, hk, hn2, decide_eq_true eq0]; rfl
        have hz2 : ∀ c, c ≠ c0 → tly m0 h c (v4.toNatClampNeg + 1) = tly m0 h c v4.toNatClampNeg := by
          intro c hc
          rw [tly.s, hk, hn2, decide_eq_false (by rw [eq0]; omega)]; rfl
        have i1 : zI (sm_w1 m 55 c0 ((m.1 55 c0) + (1 : Int32))) := zI.w hI rfl (rg _)
        have F1 : Fr [(51, 1), (14, 1), (15, 999), (55, 999)] m0 (sm_w1 m 55 c0 ((m.1 55 c0) + (1 : Int32))) := Fr.w F rfl
        refine s_mono (ih _ (v4 + (1 : Int32)) _ i1 F1 hf (by omega) (by omega) (by omega) (fun c hc => ?_) ?_) (fun r hr => hr)
        · rw [hs]
          by_cases q : c = c0
          · subst q; rw [r_hit, hz1, e55]; omega
          · rw [r_place q, hz2 c q]; exact ht c hc
        · rw [hs]
          have ci : (v3.toInt < ((m.1 55 c0) + (1 : Int32)).toInt ∧ (if v3 < ((m.1 55 c0) + (1 : Int32)) then ((m.1 55 c0) + (1 : Int32)) else v3).toInt = ((m.1 55 c0) + (1 : Int32)).toInt) ∨ (((m.1 55 c0) + (1 : Int32)).toInt ≤ v3.toInt ∧ (if v3 < ((m.1 55 c0) + (1 : Int32)) then ((m.1 55 c0) + (1 : Int32)) else v3).toInt = v3.toInt) := a_ilt
          generalize (if v3 < ((m.1 55 c0) + (1 : Int32)) then ((m.1 55 c0) + (1 : Int32)) else v3).toInt = X at ci ⊢
          refine ⟨fun c hc => ?_, ?_⟩
          · by_cases q : c = c0
            · subst q; rw [hz1]; omega
            · rw [hz2 c q]; have := hM.1 c hc; omega
          · rcases ci with ⟨c1, c2⟩ | ⟨c1, c2⟩
            · exact Or.inr ⟨c0, hc0, by rw [hz1]; omega⟩
            · rcases hM.2 with q | ⟨c, hc, q⟩
              · exact Or.inl (by omega)
              · by_cases qc : c = c0
                · subst qc; omega
                · exact Or.inr ⟨c, hc, by rw [hz2 c qc]; omega⟩
theorem v_mostC (m0 : sm_S) (hI0 : zI m0) (h : Int32) (hh : 0 ≤ h.toInt ∧ h.toInt ≤ 13) : ∀ (n : Nat) (v3 : Int32) (m : sm_S), zI m → Fr [(51, 1), (14, 1), (15, 999), (55, 999)] m0 m → (∀ w : Nat, w < 4096 → fnd m w = okB m0 w) → 0 ≤ v3.toInt → v3.toInt ≤ 7 → 7 - v3.toInt < (n : Int) → (∀ c : Nat, (c : Int) < v3.toInt → (m.1 55 c).toInt = 0) → Sf (fun r => MXp m0 h 4096 r.1.toInt ∧ zI r.2 ∧ Fr [(51, 1), (14, 1), (15, 999), (55, 999)] m0 r.2 ∧ r.2.2 = m.2) (fX0_mostLeft_2 n h v3 m) := by
  have l0 := L0
  have l1 := L1
  have l6 := L6
  have hfu := fuE
  intro n
  induction n with
  | zero => intro v3 m hI F hf h0 h1 hn; have hz : ((0 : Nat) : Int) = 0 := rfl; omega
  | succ n ih =>
    intro v3 m hI F hf h0 h1 hn ht
    have hnn : ((n + 1 : Nat) : Int) = (n : Int) + 1 := by omega
    have et := a_tn h0
    have z0 : (0 : Int32).toNatClampNeg = 0 := by decide
    unfold fX0_mostLeft_2
    refine s_lt (fun g => ?_) (fun g => ?_)
    · refine v_most m0 hI0 h hh sm_fu (0 : Int32) (0 : Int32) m hI F hf (by omega) (by omega) (by omega) (fun c hc => ?_) ?_
      · rw [z0, ht c (by omega)]; rfl
      · rw [z0, l0]; exact ⟨fun c _ => Int.le_refl _, Or.inl rfl⟩
    · have e3 : (v3 + (1 : Int32)).toInt = v3.toInt + 1 := a_addl L1 (by omega) (by omega)
      refine s_ix (by omega) ?_
      refine ih (v3 + (1 : Int32)) (sm_w1 m 55 (v3).toNatClampNeg (0 : Int32)) (zI.w hI rfl (rg _)) (Fr.w F rfl) hf (by omega) (by omega) (by omega) (fun c hc => ?_)
      by_cases q : c = v3.toNatClampNeg
      · subst q; rw [r_hit]; exact l0
      · rw [r_place q]; exact ht c (by omega)
/-- the reference's tallies of one hedge -/
def NG (m : sm_S) (s : sm_S) : Prop := XL m s ∧ XE m s ∧ zI s
theorem NG.w {m s : sm_S} {k : Nat} {v : Int32} (h : NG m s) : NG m (sm_w1 s 104 k v) := by
  have F : Fr [(104, 999)] s (sm_w1 s 104 k v) := Fr.w Fr.refl rfl
  exact ⟨h.1.fr (W := []) Fr.refl F rfl, h.2.1.fr (W := []) Fr.refl F rfl, zI.w h.2.2 rfl (rg _)⟩
theorem e_99 (m : sm_S) (h : Int32) (k12 : Int32 → Int32 → Int32 → sm_S → Option (Int32 × sm_S)) (s : sm_S) (hs : ∀ c : Nat, c < 7 → (s.1 104 c).toInt = ((tly m h c 4096 : Nat) : Int)) (v1 v2 v3 : Int32) : ∀ (n : Nat) (v4 v5 : Int32), 0 ≤ v5.toInt → v5.toInt ≤ 7 → 7 - v5.toInt < (n : Int) → (∀ c : Nat, (c : Int) < v5.toInt → ((tly m h c 4096 : Nat) : Int) ≤ v4.toInt) → (v4.toInt = 0 ∨ ∃ c : Nat, c < 7 ∧ v4.toInt = ((tly m h c 4096 : Nat) : Int)) → ∃ M : Int32, MXp m h 4096 M.toInt ∧ fX12_next_99 k12 n v1 v2 v3 v4 v5 s = (if M ≤ 0 then (k12 v1 v2 (v3 + (1 : Int32)) s) else (if v1 < 0 then (k12 v3 M (v3 + (1 : Int32)) s) else (if v2 ≤ M then (k12 v1 v2 (v3 + (1 : Int32)) s) else (k12 v3 M (v3 + (1 : Int32)) s)))) := by
  have l0 := L0
  have l1 := L1
  have l7 := L7
  intro n
  induction n with
  | zero => intro v4 v5 h0 h1 hn; have hz : ((0 : Nat) : Int) = 0 := rfl; omega
  | succ n ih =>
    intro v4 v5 h0 h1 hn hm he
    have hnn : ((n + 1 : Nat) : Int) = (n : Int) + 1 := by omega
    have et := a_tn h0
    by_cases g : (7 : Int32) ≤ v5
    · have g' := leI.mp g
      refine ⟨v4, ⟨fun c hc => hm c (by omega), he⟩, ?_⟩
      conv => lhs; unfold fX12_next_99
      rw [if_pos g]
    · have g' := Int.not_le.mp (fun z => g (leI.mpr z))
      have e5 : (v5 + (1 : Int32)).toInt = v5.toInt + 1 := a_addl L1 (by omega) (by omega)
      have t5 := hs v5.toNatClampNeg (by omega)
      have ci : (v4.toInt < (s.1 104 v5.toNatClampNeg).toInt ∧ (if v4 < (s.1 104 v5.toNatClampNeg) then (s.1 104 v5.toNatClampNeg) else v4).toInt = (s.1 104 v5.toNatClampNeg).toInt) ∨ ((s.1 104 v5.toNatClampNeg).toInt ≤ v4.toInt ∧ (if v4 < (s.1 104 v5.toNatClampNeg) then (s.1 104 v5.toNatClampNeg) else v4).toInt = v4.toInt) := a_ilt
      obtain ⟨M, hM, e⟩ := ih (if v4 < (s.1 104 v5.toNatClampNeg) then (s.1 104 v5.toNatClampNeg) else v4) (v5 + (1 : Int32)) (by omega) (by omega) (by omega) (fun c hc => by
        by_cases q : c = v5.toNatClampNeg
        · subst q; omega
        · have := hm c (by omega); omega) (by
        rcases ci with ⟨c1, c2⟩ | ⟨c1, c2⟩
        · exact Or.inr ⟨v5.toNatClampNeg, by omega, by omega⟩
        · rcases he with q | ⟨c, hc, q⟩
          · exact Or.inl (by omega)
          · exact Or.inr ⟨c, hc, by omega⟩)
      refine ⟨M, hM, ?_⟩
      rw [← e]
      conv => lhs; unfold fX12_next_99
      rw [if_neg g, if_pos (ix_in (show 0 ≤ v5.toInt ∧ v5.toInt < ((7 : Nat) : Int) by omega))]
theorem e_47 (m : sm_S) (hI : zI m) (h : Int32) (hh : 0 ≤ h.toInt ∧ h.toInt < (m.1 3 1).toInt) (k12 : Int32 → Int32 → Int32 → sm_S → Option (Int32 × sm_S)) (v1 v2 : Int32) : ∀ (n : Nat) (v4 : Int32) (s : sm_S), NG m s → 0 ≤ v4.toInt → v4.toInt ≤ 4096 → 4096 - v4.toInt < (n : Int) → (∀ c : Nat, c < 7 → (s.1 104 c).toInt = ((tly m h c v4.toNatClampNeg : Nat) : Int)) → ∃ s', NG m s' ∧ (∀ c : Nat, c < 7 → (s'.1 104 c).toInt = ((tly m h c 4096 : Nat) : Int)) ∧ fX12_next_47 k12 n v1 v2 h v4 s = fX12_next_99 k12 sm_fu v1 v2 h (0 : Int32) (0 : Int32) s' := by
  have l0 := L0
  have l1 := L1
  have l4096 := L4096
  have c31 : 0 ≤ (m.1 3 1).toInt ∧ (m.1 3 1).toInt ≤ 14 := hI.1 3 1
  intro n
  induction n with
  | zero => intro v4 s hG h0 h1 hn; have hz : ((0 : Nat) : Int) = 0 := rfl; omega
  | succ n ih =>
    intro v4 s hG h0 h1 hn ht
    have hnn : ((n + 1 : Nat) : Int) = (n : Int) + 1 := by omega
    have et := a_tn h0
    by_cases g : (4096 : Int32) ≤ v4
    · have g' := leI.mp g
      have e : v4.toNatClampNeg = 4096 := by omega
      rw [e] at ht
      refine ⟨s, hG, ht, ?_⟩
      conv => lhs; unfold fX12_next_47
      rw [if_pos g]
    · have g' := Int.not_le.mp (fun z => g (leI.mpr z))
      have e4 : (v4 + (1 : Int32)).toInt = v4.toInt + 1 := a_addl L1 (by omega) (by omega)
      have hs : (v4 + (1 : Int32)).toNatClampNeg = v4.toNatClampNeg + 1 := by
        have := a_tn (x := v4 + (1 : Int32)) (by omega)
        omega
      have b := ovw.b hI (h := h) (w := v4) (by omega) (by omega)
      have hx : 0 ≤ (ovw m v4 h).toInt ∧ (ovw m v4 h).toInt < ((7 : Nat) : Int) := by omega
      have ec := a_tn b.1
      have hn2 : nI v4.toNatClampNeg = v4 := (a_nI h0).symm
      obtain ⟨x, ex, hx2⟩ := s_wrongOf v4 hG.1 hG.2.1 hI
      have hz := hx2.zero hI h0
      have f0 : fX12_flag (0 : Int32) s = some 0 := rfl
      have f1 : fX12_flag (1 : Int32) s = some 1 := rfl
      have st : ∀ v : Int32, v.toInt = (if okB m v4.toNatClampNeg = true then 1 else 0) → ∀ c : Nat, c < 7 → ((sm_w1 s 104 (ovw m v4 h).toNatClampNeg ((s.1 104 (ovw m v4 h).toNatClampNeg) + v)).1 104 c).toInt = ((tly m h c (v4 + (1 : Int32)).toNatClampNeg : Nat) : Int) := by
        intro v hv c hc
        rw [hs, tly.s, hn2]
        have tc := ht c hc
        have tl := tly.le m h c v4.toNatClampNeg
        by_cases q : c = (ovw m v4 h).toNatClampNeg
        · rw [decide_eq_true (show (ovw m v4 h).toInt = (c : Int) by omega), Bool.and_true, ← q, r_hit]
          have hv2 : 0 ≤ v.toInt ∧ v.toInt ≤ 1 := by rw [hv]; split <;> omega
          rw [a_add (by omega) (by omega), hv]
          by_cases qk : okB m v4.toNatClampNeg = true
          · rw [if_pos qk, if_pos qk]; omega
          · rw [if_neg qk, if_neg qk]; omega
        · rw [r_place q, decide_eq_false (show ¬ (ovw m v4 h).toInt = (c : Int) by omega), Bool.and_false, if_neg (by decide)]
          omega
      by_cases qx : x = 0
      · have yk := hz.mp qx
        obtain ⟨s', q1, q2, q3⟩ := ih (v4 + (1 : Int32)) _ (hG.w (k := (ovw m v4 h).toNatClampNeg) (v := (s.1 104 (ovw m v4 h).toNatClampNeg) + (1 : Int32))) (by omega) (by omega) (by omega) (st (1 : Int32) (by rw [if_pos yk]; exact l1))
        refine ⟨s', q1, q2, ?_⟩
        rw [← q3]
        conv => lhs; unfold fX12_next_47
        rw [if_neg g, e_over12 hG.1 hI hh.1 hh.2, Option.bind_some, if_pos (ix_in hx), ex, Option.bind_some, if_pos qx, f1, Option.bind_some, if_pos (ix_in hx)]
      · have nk : ¬ okB m v4.toNatClampNeg = true := fun z => qx (hz.mpr z)
        obtain ⟨s', q1, q2, q3⟩ := ih (v4 + (1 : Int32)) _ (hG.w (k := (ovw m v4 h).toNatClampNeg) (v := (s.1 104 (ovw m v4 h).toNatClampNeg) + (0 : Int32))) (by omega) (by omega) (by omega) (st (0 : Int32) (by rw [if_neg nk]; exact l0))
        refine ⟨s', q1, q2, ?_⟩
        rw [← q3]
        conv => lhs; unfold fX12_next_47
        rw [if_neg g, e_over12 hG.1 hI hh.1 hh.2, Option.bind_some, if_pos (ix_in hx), ex, Option.bind_some, if_neg qx, f0, Option.bind_some, if_pos (ix_in hx)]
theorem e_23 (m : sm_S) (k12 : Int32 → Int32 → Int32 → sm_S → Option (Int32 × sm_S)) (v1 v2 v3 : Int32) : ∀ (n : Nat) (v4 : Int32) (s : sm_S), NG m s → 0 ≤ v4.toInt → v4.toInt ≤ 7 → 7 - v4.toInt < (n : Int) → (∀ c : Nat, (c : Int) < v4.toInt → (s.1 104 c).toInt = 0) → ∃ s', NG m s' ∧ (∀ c : Nat, c < 7 → (s'.1 104 c).toInt = 0) ∧ fX12_next_23 k12 n v1 v2 v3 v4 s = fX12_next_47 k12 sm_fu v1 v2 v3 (0 : Int32) s' := by
  have l0 := L0
  have l1 := L1
  have l7 := L7
  intro n
  induction n with
  | zero => intro v4 s hG h0 h1 hn; have hz : ((0 : Nat) : Int) = 0 := rfl; omega
  | succ n ih =>
    intro v4 s hG h0 h1 hn ht
    have hnn : ((n + 1 : Nat) : Int) = (n : Int) + 1 := by omega
    have et := a_tn h0
    by_cases g : (7 : Int32) ≤ v4
    · have g' := leI.mp g
      refine ⟨s, hG, fun c hc => ht c (by omega), ?_⟩
      conv => lhs; unfold fX12_next_23
      rw [if_pos g]
    · have g' := Int.not_le.mp (fun z => g (leI.mpr z))
      have e4 : (v4 + (1 : Int32)).toInt = v4.toInt + 1 := a_addl L1 (by omega) (by omega)
      obtain ⟨s', q1, q2, q3⟩ := ih (v4 + (1 : Int32)) _ (hG.w (k := v4.toNatClampNeg) (v := (0 : Int32))) (by omega) (by omega) (by omega) (fun c hc => by
        by_cases q : c = v4.toNatClampNeg
        · subst q; rw [r_hit]; exact l0
        · rw [r_place q]; exact ht c (by omega))
      refine ⟨s', q1, q2, ?_⟩
      rw [← q3]
      conv => lhs; unfold fX12_next_23
      rw [if_neg g, if_pos (ix_in (show 0 ≤ v4.toInt ∧ v4.toInt < ((7 : Nat) : Int) by omega))]
/-- one hedge in the reference -/
theorem e_round (m : sm_S) (hI : zI m) (h : Int32) (hh : 0 ≤ h.toInt ∧ h.toInt < (m.1 3 1).toInt) (k12 : Int32 → Int32 → Int32 → sm_S → Option (Int32 × sm_S)) (v1 v2 : Int32) (s : sm_S) (hG : NG m s) : ∃ (s' : sm_S) (M : Int32), NG m s' ∧ MXp m h 4096 M.toInt ∧ fX12_next_23 k12 sm_fu v1 v2 h (0 : Int32) s = (if M ≤ 0 then (k12 v1 v2 (h + (1 : Int32)) s') else (if v1 < 0 then (k12 h M (h + (1 : Int32)) s') else (if v2 ≤ M then (k12 v1 v2 (h + (1 : Int32)) s') else (k12 h M (h + (1 : Int32)) s')))) := by
  have l0 := L0
  have hfu := fuE
  have z0 : (0 : Int32).toNatClampNeg = 0 := by decide
  obtain ⟨s1, g1, t1, e1⟩ := e_23 m k12 v1 v2 h sm_fu (0 : Int32) s hG (by omega) (by omega) (by omega) (fun c hc => by omega)
  obtain ⟨s2, g2, t2, e2⟩ := e_47 m hI h hh k12 v1 v2 sm_fu (0 : Int32) s1 g1 (by omega) (by omega) (by omega) (fun c hc => by rw [z0, t1 c hc]; rfl)
  obtain ⟨M, hM, e3⟩ := e_99 m h k12 s2 t2 v1 v2 h sm_fu (0 : Int32) (0 : Int32) (by omega) (by omega) (by omega) (fun c hc => by omega) (Or.inl l0)
  exact ⟨s2, M, g2, hM, by rw [e1, e2, e3]⟩
theorem v_next0 (m : sm_S) (hI : zI m) (hc : cnt (okB m) 4096 = 0) : ∀ (n : Nat) (v3 : Int32) (s : sm_S) (b : Int32 × sm_S), NG m s → 0 ≤ v3.toInt → fX12_next_12 n (-2 : Int32) (0 : Int32) v3 s = some b → b.1 = (-2 : Int32) := by
  have l0 := L0
  have ln2 : (-2 : Int32).toInt = -2 := by decide
  have c31 : 0 ≤ (m.1 3 1).toInt ∧ (m.1 3 1).toInt ≤ 14 := hI.1 3 1
  intro n
  induction n with
  | zero => intro v3 s b hG h0 e; cases e
  | succ n ih =>
    intro v3 s b hG h0 e
    have e31 := hG.1.hedge
    unfold fX12_next_12 at e
    by_cases g : (s.1 72 6) ≤ v3
    · rw [if_pos g, if_neg (by decide)] at e
      obtain rfl := Option.some.inj e
      rfl
    · rw [if_neg g] at e
      have g' : v3.toInt < (s.1 72 6).toInt := Int.not_le.mp (fun z => g (leI.mpr z))
      obtain ⟨s', M, g1, hM, e1⟩ := e_round m hI v3 (by omega) (fX12_next_12 n) (-2 : Int32) (0 : Int32) s hG
      have e3 : (v3 + (1 : Int32)).toInt = v3.toInt + 1 := a_addl L1 (by omega) (by omega)
      have hM0 : M.toInt ≤ 0 := by
        rcases hM.2 with q | ⟨c, hc7, q⟩
        · omega
        · have hle : tly m v3 c 4096 ≤ cnt (okB m) 4096 := cnt_mono (fun k _ hk => (Bool.and_eq_true_iff.mp hk).1)
          omega
      rw [e1, if_pos (leI.mpr (by omega))] at e
      exact ih (v3 + (1 : Int32)) s' b g1 (by omega) e
theorem tq_next_loop (m : sm_S) (hI : zI m) (hc : 0 < cnt (okB m) 4096) : ∀ (n : Nat) (v2 v3 v4 w1 w2 : Int32) (m' s : sm_S), zI m' → Fr [(51, 1), (14, 1), (15, 999), (55, 999)] m m' → (∀ w : Nat, w < 4096 → fnd m' w = okB m w) → NG m s → 0 ≤ v4.toInt → v4.toInt ≤ (m.1 3 1).toInt → 1 ≤ (m.1 3 1).toInt → (m.1 3 1).toInt - v4.toInt < (n : Int) → ((v4.toInt = 0 ∧ v3.toInt = 4097 ∧ w1.toInt < 0) ∨ (1 ≤ v4.toInt ∧ v2 = w1 ∧ v3 = w2 ∧ 0 ≤ w1.toInt)) → TR (fun a b => a.1 = b.1) (fX11_next_38 n v2 v3 v4 m') (fX12_next_12 n w1 w2 v4 s) := by
  have l0 := L0
  have l1 := L1
  have hfu := fuE
  have c31 : 0 ≤ (m.1 3 1).toInt ∧ (m.1 3 1).toInt ≤ 14 := hI.1 3 1
  intro n
  induction n with
  | zero => intro v2 v3 v4 w1 w2 m' s hI' F hf hG h0 h1 h2 hn; have hz : ((0 : Nat) : Int) = 0 := rfl; omega
  | succ n ih =>
    intro v2 v3 v4 w1 w2 m' s hI' F hf hG h0 h1 h2 hn hr
    have hnn : ((n + 1 : Nat) : Int) = (n : Int) + 1 := by omega
    have e31 := hG.1.hedge
    have f31 : (m'.1 3 1).toInt = (m.1 3 1).toInt := congrArg Int32.toInt (F 3 1 rfl)
    unfold fX11_next_38 fX12_next_12
    refine tl_le (fun g => tr_le (fun _ => ?_) (fun g' => by omega)) (fun g => tr_le (fun g' => by omega) (fun _ => ?_))
    · rcases hr with hr | ⟨r1, r2, r3, r4⟩
      · omega
      · refine tl_bd (zX5_tell v3 m' hI') (fun m4 _ => ?_)
        refine tr_le (fun _ => ?_) (fun g' => by omega)
        have i1 : zI (sm_w1 s 72 1 (0 : Int32)) := zI.w hG.2.2 rfl (show 0 ≤ (0 : Int32).toInt ∧ (0 : Int32).toInt ≤ 24 by omega)
        have e1 : ((sm_w1 s 72 1 (0 : Int32)).1 72 1).toInt = 0 := l0
        exact tr_bd (zX12_enters w2 _ (by omega) i1) (fun m2 _ => t_ret r2)
    · have e4 : (v4 + (1 : Int32)).toInt = v4.toInt + 1 := a_addl L1 (by omega) (by omega)
      obtain ⟨s', M, g1, hM, e1⟩ := e_round m hI v4 (by omega) (fX12_next_12 n) w1 w2 s hG
      rw [e1]
      have hp := hM.pos hI (by omega) hc
      unfold fX0_mostLeft
      refine tl_bd (v_mostC m hI v4 (by omega) sm_fu (0 : Int32) m' hI' F hf (by omega) (by omega) (by omega) (fun c hc => by omega)) (fun r hr6 => ?_)
      obtain ⟨r1, r2, r3, r4⟩ := hr6
      have eM : r.1 = M := Int32.toInt_inj.mp (r1.eq hM)
      rw [eM]
      have hf' : ∀ w : Nat, w < 4096 → fnd r.2 w = okB m w := by
        intro w hw
        have : fnd r.2 w = fnd m' w := by unfold fnd; rw [r4]
        rw [this]; exact hf w hw
      refine tr_le (fun g' => by omega) (fun _ => ?_)
      rcases hr with ⟨a1, a2, a3⟩ | ⟨a1, a2, a3, a4⟩
      · refine tr_lt (fun _ => ?_) (fun g' => by omega)
        refine tl_le (fun g' => by omega) (fun _ => ?_)
        exact ih v4 M (v4 + (1 : Int32)) v4 M r.2 s' r2 r3 hf' g1 (by omega) (by omega) h2 (by omega) (Or.inr ⟨by omega, rfl, rfl, by omega⟩)
      · refine tr_lt (fun g' => by omega) (fun _ => ?_)
        subst a2; subst a3
        by_cases q : v3 ≤ M
        · rw [if_pos q, if_pos q]
          exact ih v2 v3 (v4 + (1 : Int32)) v2 v3 r.2 s' r2 r3 hf' g1 (by omega) (by omega) h2 (by omega) (Or.inr ⟨by omega, rfl, rfl, a4⟩)
        · rw [if_neg q, if_neg q]
          exact ih v4 M (v4 + (1 : Int32)) v4 M r.2 s' r2 r3 hf' g1 (by omega) (by omega) h2 (by omega) (Or.inr ⟨by omega, rfl, rfl, by omega⟩)
theorem tq_next {m s : sm_S} (hR : RX m s) (hI : zI m) (hJ : zI s) (_ : zC s) : TR (fun a b => a.1 = b.1) (fX11_next m) (fX12_next s) := by
  have l0 := L0
  have ln2 : (-2 : Int32).toInt = -2 := by decide
  have l4097 : (4097 : Int32).toInt = 4097 := by decide
  have hfu := fuE
  have c31 : 0 ≤ (m.1 3 1).toInt ∧ (m.1 3 1).toInt ≤ 14 := hI.1 3 1
  have e31 := hR.2.1.hedge
  have i0 : zI (sm_w1 s 72 0 (0 : Int32)) := zI.w hJ rfl (show 0 ≤ (0 : Int32).toInt ∧ (0 : Int32).toInt ≤ 1 by omega)
  have hL : XL m (sm_w1 s 72 0 (0 : Int32)) := hR.2.1
  have hE : XE m (sm_w1 s 72 0 (0 : Int32)) := hR.2.2
  have hG : NG m (sm_w1 s 72 0 (0 : Int32)) := ⟨hL, hE, i0⟩
  obtain ⟨b, eb, -, -⟩ := zX12_next s hJ
  have eb' := eb
  unfold fX12_next at eb'
  unfold fX11_next
  refine tl_bd (s_findWays hI) (fun a ha => ?_)
  obtain ⟨a1, ⟨F, f1, f2, f3⟩, a3⟩ := ha
  have F' : Fr [(51, 1), (14, 1), (15, 999), (55, 999)] m a.2 := Fr.sub F rfl
  have f31 : (a.2.1 3 1).toInt = (m.1 3 1).toInt := congrArg Int32.toInt (F 3 1 rfl)
  refine tl_eq (fun g => ?_) (fun g => ?_)
  · rw [eb]
    exact t_ret (v_next0 m hI (by omega) _ _ _ _ hG (by omega) eb').symm
  · refine tl_eq (fun g2 => ?_) (fun g2 => ?_)
    · rw [eb]
      refine t_ret ?_
      obtain ⟨k, hk⟩ : ∃ k : Nat, sm_fu = k + 1 := ⟨199999, rfl⟩
      rw [hk] at eb'
      unfold fX12_next_12 at eb'
      rw [if_pos (leI.mpr (show ((sm_w1 s 72 0 (0 : Int32)).1 72 6).toInt ≤ (0 : Int32).toInt by have : ((sm_w1 s 72 0 (0 : Int32)).1 72 6).toInt = (s.1 72 6).toInt := rfl; omega)), if_neg (by decide)] at eb'
      obtain rfl := Option.some.inj eb'
      rfl
    · unfold fX12_next
      exact tq_next_loop m hI (by omega) sm_fu (0 : Int32) (4097 : Int32) (0 : Int32) (-2 : Int32) (0 : Int32) a.2 _ a3 F' (fun w hw => f1 w (by omega) hw) hG (by omega) (by omega) (by omega) (by omega) (Or.inl ⟨l0, l4097, by omega⟩)
