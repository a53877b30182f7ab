/-! THE RELATION of both classes' cells: the text, the land, what is heard -/
def XT (m s : sm_S) : Prop := m.1 1 1 = s.1 72 21 ∧ ∀ j : Nat, (j : Int) < (m.1 1 1).toInt → m.1 2 j = s.1 84 j
def XL (m s : sm_S) : Prop := XP m s ∧ m.1 3 2 = s.1 72 15 ∧ m.1 3 3 = s.1 72 16
def XE (m s : sm_S) : Prop := m.1 51 0 = s.1 72 51 ∧ ∀ j : Nat, (j : Int) < (m.1 51 0).toInt → m.1 53 j = s.1 102 j ∧ m.1 54 j = s.1 103 j ∧ (m.1 53 j).toInt < (m.1 3 1).toInt
def RX (m s : sm_S) : Prop := XT m s ∧ XL m s ∧ XE m s
def noA (W : List (Nat × Nat)) (a : Nat) : Bool := W.all (fun p => !(Nat.beq p.1 a))
def noC1 (W : List (Nat × Nat)) (a k : Nat) : Bool := !inW W a k
theorem noC1.e {W : List (Nat × Nat)} {a k : Nat} {m m' : sm_S} (F : Fr W m m') (h : noC1 W a k = true) : m'.1 a k = m.1 a k := by
  refine F a k ?_
  unfold noC1 at h
  cases hi : inW W a k with
  | false => rfl
  | true => rw [hi] at h; cases h
theorem noA.e {W : List (Nat × Nat)} {a : Nat} {m m' : sm_S} (F : Fr W m m') (h : noA W a = true) (j : Nat) : m'.1 a j = m.1 a j := F a j (no_arr h j)
def nT (W V : List (Nat × Nat)) : Bool := and (noC1 W 1 1) (and (noA W 2) (and (noC1 V 72 21) (noA V 84)))
theorem XT.fr {W V : List (Nat × Nat)} {m s m' s' : sm_S} (h : XT m s) (F : Fr W m m') (G : Fr V s s') (hn : nT W V = true) : XT m' s' := by
  obtain ⟨n1, hn⟩ := Bool.and_eq_true_iff.mp hn
  obtain ⟨n2, hn⟩ := Bool.and_eq_true_iff.mp hn
  obtain ⟨n3, n4⟩ := Bool.and_eq_true_iff.mp hn
  refine ⟨by rw [noC1.e F n1, noC1.e G n3]; exact h.1, fun j hj => ?_⟩
  rw [noC1.e F n1] at hj
  rw [noA.e F n2, noA.e G n4]; exact h.2 j hj
def nP (W V : List (Nat × Nat)) : Bool := and (noC1 W 3 0) (and (noC1 W 3 1) (and (noC1 V 72 3) (and (noC1 V 72 6) (and (noC1 V 72 14) (and ([4, 5, 6, 7, 8, 9, 10, 11, 12, 13].all (noA W)) ([74, 75, 76, 77, 78, 79, 80, 81, 82].all (noA V)))))))
theorem RP.cg {c h : Int} {g : Int32} {m s m' s' : sm_S} (hp : RP c h g m s) (a : ∀ x, x ∈ [4, 5, 6, 7, 8, 9, 10, 11, 12, 13] → ∀ j, m'.1 x j = m.1 x j) (b : ∀ x, x ∈ [74, 75, 76, 77, 78, 79, 80, 81, 82] → ∀ j, s'.1 x j = s.1 x j) : RP c h g m' s' := by
  refine ⟨fun j hj => ?_, fun j hj => ?_⟩
  · rw [a 4 (by decide), a 5 (by decide), b 74 (by decide), b 75 (by decide)]; exact hp.1 j hj
  · rw [a 6 (by decide), a 7 (by decide), a 8 (by decide), a 9 (by decide), a 10 (by decide), a 11 (by decide), a 12 (by decide), a 13 (by decide), b 76 (by decide), b 77 (by decide), b 78 (by decide), b 79 (by decide), b 80 (by decide), b 81 (by decide), b 82 (by decide)]; exact hp.2 j hj
theorem XP.cg {m s m' s' : sm_S} (h : XP m s) (e1 : m'.1 3 0 = m.1 3 0) (e2 : m'.1 3 1 = m.1 3 1) (e3 : s'.1 72 3 = s.1 72 3) (e4 : s'.1 72 6 = s.1 72 6) (e5 : s'.1 72 14 = s.1 72 14) (a : ∀ x, x ∈ [4, 5, 6, 7, 8, 9, 10, 11, 12, 13] → ∀ j, m'.1 x j = m.1 x j) (b : ∀ x, x ∈ [74, 75, 76, 77, 78, 79, 80, 81, 82] → ∀ j, s'.1 x j = s.1 x j) : XP m' s' := by
  obtain ⟨h1, h2, h3⟩ := h
  refine ⟨by rw [e1, e3]; exact h1, by rw [e2, e4]; exact h2, ?_⟩
  rw [e1, e2, e5]
  exact h3.cg a b
theorem XP.fr {W V : List (Nat × Nat)} {m s m' s' : sm_S} (h : XP m s) (F : Fr W m m') (G : Fr V s s') (hn : nP W V = true) : XP m' s' := by
  obtain ⟨n1, hn⟩ := Bool.and_eq_true_iff.mp hn
  obtain ⟨n2, hn⟩ := Bool.and_eq_true_iff.mp hn
  obtain ⟨n3, hn⟩ := Bool.and_eq_true_iff.mp hn
  obtain ⟨n4, hn⟩ := Bool.and_eq_true_iff.mp hn
  obtain ⟨n5, hn⟩ := Bool.and_eq_true_iff.mp hn
  obtain ⟨n6, n7⟩ := Bool.and_eq_true_iff.mp hn
  exact h.cg (noC1.e F n1) (noC1.e F n2) (noC1.e G n3) (noC1.e G n4) (noC1.e G n5) (fun x hx => noA.e F (List.all_eq_true.mp n6 x hx)) (fun x hx => noA.e G (List.all_eq_true.mp n7 x hx))
def nL (W V : List (Nat × Nat)) : Bool := and (nP W V) (and (noC1 W 3 2) (and (noC1 W 3 3) (and (noC1 V 72 15) (noC1 V 72 16))))
theorem XL.fr {W V : List (Nat × Nat)} {m s m' s' : sm_S} (h : XL m s) (F : Fr W m m') (G : Fr V s s') (hn : nL W V = true) : XL m' s' := by
  obtain ⟨n0, hn⟩ := Bool.and_eq_true_iff.mp hn
  obtain ⟨n1, hn⟩ := Bool.and_eq_true_iff.mp hn
  obtain ⟨n2, hn⟩ := Bool.and_eq_true_iff.mp hn
  obtain ⟨n3, n4⟩ := Bool.and_eq_true_iff.mp hn
  exact ⟨h.1.fr F G n0, by rw [noC1.e F n1, noC1.e G n3]; exact h.2.1, by rw [noC1.e F n2, noC1.e G n4]; exact h.2.2⟩
def nE (W V : List (Nat × Nat)) : Bool := and (noC1 W 3 1) (and (noC1 W 51 0) (and (noA W 53) (and (noA W 54) (and (noC1 V 72 51) (and (noA V 102) (noA V 103))))))
theorem XE.fr {W V : List (Nat × Nat)} {m s m' s' : sm_S} (h : XE m s) (F : Fr W m m') (G : Fr V s s') (hn : nE W V = true) : XE m' s' := by
  obtain ⟨n0, hn⟩ := Bool.and_eq_true_iff.mp hn
  obtain ⟨n1, hn⟩ := Bool.and_eq_true_iff.mp hn
  obtain ⟨n2, hn⟩ := Bool.and_eq_true_iff.mp hn
  obtain ⟨n3, hn⟩ := Bool.and_eq_true_iff.mp hn
  obtain ⟨n4, hn⟩ := Bool.and_eq_true_iff.mp hn
  obtain ⟨n5, n6⟩ := Bool.and_eq_true_iff.mp hn
  refine ⟨by rw [noC1.e F n1, noC1.e G n4]; exact h.1, fun j hj => ?_⟩
  rw [noC1.e F n1] at hj
  rw [noA.e F n2, noA.e F n3, noA.e G n5, noA.e G n6, noC1.e F n0]; exact h.2 j hj
def nX (W V : List (Nat × Nat)) : Bool := and (nT W V) (and (nL W V) (nE W V))
theorem RX.fr {W V : List (Nat × Nat)} {m s m' s' : sm_S} (h : RX m s) (F : Fr W m m') (G : Fr V s s') (hn : nX W V = true) : RX m' s' := by
  obtain ⟨n1, hn⟩ := Bool.and_eq_true_iff.mp hn
  obtain ⟨n2, n3⟩ := Bool.and_eq_true_iff.mp hn
  exact ⟨h.1.fr F G n1, h.2.1.fr F G n2, h.2.2.fr F G n3⟩
def RR (m : sm_S) : Prop := RX m m
theorem RR.fr {W : List (Nat × Nat)} {m m' : sm_S} (h : RR m) (F : Fr W m m') (hn : nX W W = true) : RR m' := RX.fr h F F hn
/-- the class's call is done, the reference's not yet -/
theorem RR.mid {V : List (Nat × Nat)} {m s : sm_S} (h : RR m) (G : Fr V m s) (hn : nX [] V = true) : RX m s := RX.fr (W := []) h Fr.refl G hn
/-- both are done -/
theorem RR.join {W V : List (Nat × Nat)} {m : sm_S} {r r' : Int32 × sm_S} {o o' : Option (Int32 × sm_S)} (h : TR (fun a b => a.1 = b.1 ∧ RX a.2 b.2) o o') (e1 : o = some r) (e2 : o' = some r') (F2 : Fr V r.2 r'.2) (hn : nX V [] = true) : RR r'.2 ∧ r.1 = r'.1 := by
  obtain ⟨a, b, ea, eb, q1, q2⟩ := h
  obtain rfl := Option.some.inj (ea.symm.trans e1)
  obtain rfl := Option.some.inj (eb.symm.trans e2)
  exact ⟨RX.fr (V := []) q2 F2 Fr.refl hn, q1⟩
/-- answers alone -/
theorem TR.eq {m s : sm_S} {r r' : Int32 × sm_S} {o o' : Option (Int32 × sm_S)} (h : TR (fun a b => a.1 = b.1) o o') (e1 : o = some r) (e2 : o' = some r') : r.1 = r'.1 := by
  obtain ⟨a, b, ea, eb, q1⟩ := h
  obtain rfl := Option.some.inj (ea.symm.trans e1)
  obtain rfl := Option.some.inj (eb.symm.trans e2)
  exact q1
theorem TR.eqI {r : Int32} {r' : Int32 × sm_S} {o : Option Int32} {o' : Option (Int32 × sm_S)} (h : TR (fun a b => a = b.1) o o') (e1 : o = some r) (e2 : o' = some r') : r = r'.1 := by
  obtain ⟨a, b, ea, eb, q1⟩ := h
  obtain rfl := Option.some.inj (ea.symm.trans e1)
  obtain rfl := Option.some.inj (eb.symm.trans e2)
  exact q1
/-! land -/
def lM (m : sm_S) : sm_S := sm_w1 (sm_w1 (sm_w1 (sm_w1 m 1 2 (0 : Int32)) 1 3 (if (76 : Int32) < (m.1 1 1) then (76 : Int32) else (m.1 1 1))) 1 4 (m.1 3 0)) 1 5 (m.1 3 1)
def lS (s : sm_S) : sm_S := sm_w1 (sm_w1 (sm_w1 (sm_w1 (sm_w1 (sm_w1 (sm_w1 s 72 0 (0 : Int32)) 72 21 (0 : Int32)) 72 22 (0 : Int32)) 72 23 (if (76 : Int32) < (s.1 72 21) then (76 : Int32) else (s.1 72 21))) 72 24 (s.1 72 3)) 72 25 (s.1 72 6)) 72 26 (0 : Int32)
theorem rl_eq (m : sm_S) : fX8_readLines m = fX8_readLines_38 sm_fu (0 : Int32) (1 : Int32) (lM m) := rfl
theorem ld_eq (s : sm_S) : fX12_land s = if (s.1 72 21) ≤ 0 then (fX12_land_48 sm_fu (s.1 72 21) (0 : Int32) (1 : Int32) (0 : Int32) (lS s)) else (fX12_land_48 sm_fu (s.1 72 21) (0 : Int32) (1 : Int32) (1 : Int32) (lS s)) := rfl
theorem lM.out {m : sm_S} {c j : Nat} (h : c ≠ 1) : (lM m).1 c j = m.1 c j := by
  unfold lM
  rw [r_cell h, r_cell h, r_cell h, r_cell h]
theorem lS.out {m : sm_S} {c j : Nat} (h : c ≠ 72) : (lS m).1 c j = m.1 c j := by
  unfold lS
  rw [r_cell h, r_cell h, r_cell h, r_cell h, r_cell h, r_cell h, r_cell h]
theorem lM_zI {m : sm_S} (h : zI m) : zI (lM m) := by
  have l0 := L0
  have l76 := L76
  have c1 : 0 ≤ (m.1 1 1).toInt ∧ (m.1 1 1).toInt ≤ 80 := h.1 1 1
  have c30 : 0 ≤ (m.1 3 0).toInt ∧ (m.1 3 0).toInt ≤ 10 := h.1 3 0
  have c31 : 0 ≤ (m.1 3 1).toInt ∧ (m.1 3 1).toInt ≤ 14 := h.1 3 1
  have ci : ((76 : Int32).toInt < (m.1 1 1).toInt ∧ (if (76 : Int32) < (m.1 1 1) then (76 : Int32) else (m.1 1 1)).toInt = (76 : Int32).toInt) ∨ ((m.1 1 1).toInt ≤ (76 : Int32).toInt ∧ (if (76 : Int32) < (m.1 1 1) then (76 : Int32) else (m.1 1 1)).toInt = (m.1 1 1).toInt) := a_ilt
  have i1 : zI (sm_w1 m 1 2 (0 : Int32)) := zI.w h rfl (show 0 ≤ (0 : Int32).toInt ∧ (0 : Int32).toInt ≤ 80 by omega)
  have i2 : zI (sm_w1 (sm_w1 m 1 2 (0 : Int32)) 1 3 (if (76 : Int32) < (m.1 1 1) then (76 : Int32) else (m.1 1 1))) := zI.w i1 rfl (show 0 ≤ (if (76 : Int32) < (m.1 1 1) then (76 : Int32) else (m.1 1 1)).toInt ∧ (if (76 : Int32) < (m.1 1 1) then (76 : Int32) else (m.1 1 1)).toInt ≤ 76 by omega)
  exact zI.w (zI.w i2 rfl c30) rfl c31
theorem lS_zI {m : sm_S} (h : zI m) : zI (lS m) := by
  have l0 := L0
  have l76 := L76
  have c1 : 0 ≤ (m.1 72 21).toInt ∧ (m.1 72 21).toInt ≤ 80 := h.1 72 21
  have c3 : 0 ≤ (m.1 72 3).toInt ∧ (m.1 72 3).toInt ≤ 10 := h.1 72 3
  have c6 : 0 ≤ (m.1 72 6).toInt ∧ (m.1 72 6).toInt ≤ 14 := h.1 72 6
  have hle := zI.le h
  have ci : ((76 : Int32).toInt < (m.1 72 21).toInt ∧ (if (76 : Int32) < (m.1 72 21) then (76 : Int32) else (m.1 72 21)).toInt = (76 : Int32).toInt) ∨ ((m.1 72 21).toInt ≤ (76 : Int32).toInt ∧ (if (76 : Int32) < (m.1 72 21) then (76 : Int32) else (m.1 72 21)).toInt = (m.1 72 21).toInt) := a_ilt
  have i0 := zI.w h (a := 72) (k := 0) (v := (0 : Int32)) rfl (show 0 ≤ (0 : Int32).toInt ∧ (0 : Int32).toInt ≤ 1 by omega)
  have i1 := zI.w i0 (a := 72) (k := 21) (v := (0 : Int32)) rfl (show 0 ≤ (0 : Int32).toInt ∧ (0 : Int32).toInt ≤ 80 by omega)
  have i2 := zI.w i1 (a := 72) (k := 22) (v := (0 : Int32)) rfl (show 0 ≤ (0 : Int32).toInt ∧ (0 : Int32).toInt ≤ 80 by omega)
  have i3 := zI.w i2 (a := 72) (k := 23) (v := (if (76 : Int32) < (m.1 72 21) then (76 : Int32) else (m.1 72 21))) rfl (show 0 ≤ (if (76 : Int32) < (m.1 72 21) then (76 : Int32) else (m.1 72 21)).toInt ∧ (if (76 : Int32) < (m.1 72 21) then (76 : Int32) else (m.1 72 21)).toInt ≤ 76 by omega)
  have i4 := zI.w i3 (a := 72) (k := 24) (v := m.1 72 3) rfl (show 0 ≤ (m.1 72 3).toInt ∧ (m.1 72 3).toInt ≤ 10 by omega)
  have i5 := zI.w25 i4 (v := m.1 72 6) (show 0 ≤ (m.1 72 6).toInt ∧ (m.1 72 6).toInt ≤ 14 by omega) (show (m.1 72 6).toInt ≤ (m.1 72 6).toInt ∧ (m.1 72 6).toInt ≤ (m.1 72 25).toInt by omega)
  exact zI.w i5 (a := 72) (k := 26) (v := (0 : Int32)) rfl (show 0 ≤ (0 : Int32).toInt ∧ (0 : Int32).toInt ≤ 16383 by omega)
theorem or_0 (x : Int32) : x ||| (0 : Int32) = x := b_ext (fun i _ => by rw [b_or, b_0, Bool.or_false])
theorem l_TP {m s : sm_S} (hT : XT m s) (hL : XP m s) (hI : zI m) (hJ : zI s) (hC : zC s) : TP (lM m) (lS s) := by
  have l76 := L76
  have c1 : 0 ≤ (m.1 1 1).toInt ∧ (m.1 1 1).toInt ≤ 80 := hI.1 1 1
  have ci : ((76 : Int32).toInt < (m.1 1 1).toInt ∧ (if (76 : Int32) < (m.1 1 1) then (76 : Int32) else (m.1 1 1)).toInt = (76 : Int32).toInt) ∨ ((m.1 1 1).toInt ≤ (76 : Int32).toInt ∧ (if (76 : Int32) < (m.1 1 1) then (76 : Int32) else (m.1 1 1)).toInt = (m.1 1 1).toInt) := a_ilt
  obtain ⟨t1, t2⟩ := hT
  obtain ⟨p1, p2, p3⟩ := hL
  have a12 : (lM m).1 1 2 = (0 : Int32) := rfl
  have a13 : (lM m).1 1 3 = (if (76 : Int32) < (m.1 1 1) then (76 : Int32) else (m.1 1 1)) := rfl
  have a14 : (lM m).1 1 4 = m.1 3 0 := rfl
  have a15 : (lM m).1 1 5 = m.1 3 1 := rfl
  have b22 : (lS s).1 72 22 = (0 : Int32) := rfl
  have b23 : (lS s).1 72 23 = (if (76 : Int32) < (s.1 72 21) then (76 : Int32) else (s.1 72 21)) := rfl
  have b24 : (lS s).1 72 24 = s.1 72 3 := rfl
  have b25 : (lS s).1 72 25 = s.1 72 6 := rfl
  have b26 : (lS s).1 72 26 = (0 : Int32) := rfl
  have b6 : (lS s).1 72 6 = s.1 72 6 := rfl
  have b14 : (lS s).1 72 14 = s.1 72 14 := rfl
  have l0 := L0
  refine ⟨⟨?_, ?_, ?_, fun j hj => ?_⟩, ⟨?_, ?_, ?_, fun i hi hb => ?_, fun i hi hb => ?_⟩, lM_zI hI, lS_zI hJ⟩
  · rw [a12, b22]
  · rw [a13, b23, t1]
  · rw [a12, a13]; omega
  · rw [a13] at hj
    rw [lM.out (by decide), lS.out (by decide)]
    exact t2 j (by omega)
  · rw [a14, b24]; exact p1
  · rw [a15, b25]; exact p2
  · rw [a14, a15, b14, b26, or_0]
    refine p3.cg (fun x hx j => lM.out ?_) (fun x hx j => lS.out ?_)
    · intro e; subst e; exact absurd hx (by decide)
    · intro e; subst e; exact absurd hx (by decide)
  · rw [b26, b_0] at hb; cases hb
  · rw [b14] at hb; rw [b6]; exact hC.2 i hi hb
theorem tq_land {m s : sm_S} (h : RX m s) (hI : zI m) (hJ : zI s) (hC : zC s) : TR (PL (m.1 3 1).toInt) (fX11_land m) (fX12_land s) := by
  have hT := h.1
  have hL := h.2.1.1
  have l0 := L0
  have l1 := L1
  have l76 := L76
  have hfu := fuE
  have c1 : 0 ≤ (m.1 1 1).toInt ∧ (m.1 1 1).toInt ≤ 80 := hI.1 1 1
  have e1 : (m.1 1 1).toInt = (s.1 72 21).toInt := congrArg Int32.toInt hT.1
  have iS := lS_zI hJ
  have tp := l_TP hT hL hI hJ hC
  unfold fX11_land
  rw [ld_eq]
  refine tl_eq (fun g => tr_le (fun _ => ?_) (fun g' => by omega)) (fun g => tr_le (fun g' => by omega) (fun _ => ?_))
  · obtain ⟨k, hk⟩ : ∃ k : Nat, sm_fu = k + 1 := ⟨199999, rfl⟩
    rw [hk]
    unfold fX12_land_48
    rw [if_pos rfl]
    refine tr_bd (zX12_faultOf_v (s.1 72 21) (76 : Int32) (1 : Int32) (lS s) (by omega) iS) (fun f hf => ?_)
    obtain ⟨-, -, hf⟩ := hf
    have b22 : ((lS s).1 72 22).toInt = 0 := l0
    have b23 : ((lS s).1 72 23).toInt = (if (76 : Int32) < (s.1 72 21) then (76 : Int32) else (s.1 72 21)).toInt := rfl
    have ci : ((76 : Int32).toInt < (s.1 72 21).toInt ∧ (if (76 : Int32) < (s.1 72 21) then (76 : Int32) else (s.1 72 21)).toInt = (76 : Int32).toInt) ∨ ((s.1 72 21).toInt ≤ (76 : Int32).toInt ∧ (if (76 : Int32) < (s.1 72 21) then (76 : Int32) else (s.1 72 21)).toInt = (s.1 72 21).toInt) := a_ilt
    have ef : f.toInt = 0 := by rcases hf with q | ⟨q, q2 | q2⟩ <;> omega
    refine tr_le (fun _ => ?_) (fun h => by omega)
    refine tr_le (fun _ => t_ret ⟨rfl, ?_, Int.le_refl _⟩) (fun h => by omega)
    have o : ∀ x j : Nat, x ≠ 72 → (sm_w1 (sm_w1 (sm_w1 (sm_w1 (lS s) 72 3 ((lS s).1 72 24)) 72 6 ((lS s).1 72 25)) 72 14 (((lS s).1 72 14) ||| ((lS s).1 72 26))) 72 27 ((lS s).1 72 27)).1 x j = s.1 x j := fun x j hx => by rw [r_cell hx, r_cell hx, r_cell hx, r_cell hx, lS.out hx]
    refine XP.cg hL rfl rfl rfl rfl (or_0 _) (fun _ _ _ => rfl) (fun x hx j => o x j ?_)
    intro e; subst e; exact absurd hx (by decide)
  · rw [rl_eq]
    have a12 : ((lM m).1 1 2).toInt = 0 := l0
    have a13 : ((lM m).1 1 3).toInt = (if (76 : Int32) < (m.1 1 1) then (76 : Int32) else (m.1 1 1)).toInt := rfl
    have ci : ((76 : Int32).toInt < (m.1 1 1).toInt ∧ (if (76 : Int32) < (m.1 1 1) then (76 : Int32) else (m.1 1 1)).toInt = (76 : Int32).toInt) ∨ ((m.1 1 1).toInt ≤ (76 : Int32).toInt ∧ (if (76 : Int32) < (m.1 1 1) then (76 : Int32) else (m.1 1 1)).toInt = (m.1 1 1).toInt) := a_ilt
    refine tlb (t_loop (m.1 3 1).toInt sm_fu (s.1 72 21) (0 : Int32) (1 : Int32) (lM m) (lS s) tp (Int.le_refl _) hL.1 hL.2.1 (Int.le_refl _) (Int.le_refl _) hT.1 (by omega) (by omega) (Or.inr l1) (by omega) (by omega) (by omega)) (fun a b hab => ?_)
    obtain ⟨q1, q2, q3⟩ := hab
    refine tl_le (fun _ => t_ret ⟨q1, ?_, q3⟩) (fun _ => t_ret ⟨q1, ?_, q3⟩)
    · refine XP.cg q2 rfl rfl rfl rfl rfl (fun x hx j => r_cell ?_) (fun _ _ _ => rfl)
      intro e; subst e; exact absurd hx (by decide)
    · refine XP.cg q2 rfl rfl rfl rfl rfl (fun x hx j => ?_) (fun _ _ _ => rfl)
      show (sm_w1 (sm_w1 a.2 1 1 (0 : Int32)) 20 0 (0 : Int32)).1 x j = a.2.1 x j
      rw [r_cell (by intro e; subst e; exact absurd hx (by decide)), r_cell (by intro e; subst e; exact absurd hx (by decide))]
theorem R_land {m : sm_S} {r r' : Int32 × sm_S} (h : RR m) (hI : zI m) (hJ : zI r.2) (hC : zC r.2) (e1 : fX11_land m = some r) (F1 : Fr wX11_land m r.2) (z1 : (r.2.1 1 1).toInt = 0) (e2 : fX12_land r.2 = some r') (F2 : Fr wX12_land r.2 r'.2) : RR r'.2 ∧ r.1 = r'.1 := by
  have hm : RX m r.2 := h.mid F1 rfl
  obtain ⟨a, b, ea, eb, q1, q2, q3⟩ := tq_land hm hI hJ hC
  obtain rfl := Option.some.inj (ea.symm.trans e1)
  obtain rfl := Option.some.inj (eb.symm.trans e2)
  have z2 := vland hJ e2
  have h11 : b.2.1 1 1 = a.2.1 1 1 := F2 1 1 rfl
  have h31 : b.2.1 3 1 = a.2.1 3 1 := F2 3 1 rfl
  have h51 : b.2.1 51 0 = m.1 51 0 := (F2 51 0 rfl).trans (F1 51 0 rfl)
  refine ⟨⟨⟨Int32.toInt_inj.mp (by rw [h11, z1, z2]), fun j hj => ?_⟩, ⟨XP.fr (V := []) q2 F2 Fr.refl rfl, ?_, ?_⟩, ⟨?_, fun j hj => ?_⟩⟩, q1⟩
  · rw [h11, z1] at hj; omega
  · rw [F2 3 2 rfl, F1 3 2 rfl, F2 72 15 rfl]; exact hm.2.1.2.1
  · rw [F2 3 3 rfl, F1 3 3 rfl, F2 72 16 rfl]; exact hm.2.1.2.2
  · rw [h51, F2 72 51 rfl]; exact hm.2.2.1
  · rw [h51] at hj
    obtain ⟨u1, u2, u3⟩ := hm.2.2.2 j hj
    rw [h31, F2 53 j rfl, F1 53 j rfl, F2 54 j rfl, F1 54 j rfl, F2 102 j rfl, F2 103 j rfl]
    exact ⟨u1, u2, by omega⟩
