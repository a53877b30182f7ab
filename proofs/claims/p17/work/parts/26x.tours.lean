/-! THE RELATION OF THE TOURS -/
/-- a tour of the class (a: its numbers, h: its hedges) and number i of the reference -/
def XV1 (m s : sm_S) (a h i : Nat) : Prop := (m.1 a 0 = 0 ∧ (s.1 89 i).toInt < 0) ∨ (m.1 a 0 ≠ 0 ∧ m.1 a 1 = s.1 89 i ∧ 0 ≤ (s.1 89 i).toInt ∧ m.1 a 2 = s.1 90 i ∧ 0 ≤ (s.1 90 i).toInt ∧ (s.1 90 i).toInt ≤ 29 ∧ ∀ k : Nat, (k : Int) < (s.1 90 i).toInt → m.1 h k = s.1 91 (30 * i + k) ∧ 0 ≤ (m.1 h k).toInt ∧ (m.1 h k).toInt < (m.1 3 1).toInt)
def XV (m s : sm_S) : Prop := XV1 m s 58 59 0 ∧ XV1 m s 62 63 1
theorem XV1.cg {m s m' s' : sm_S} {a h i : Nat} (q : XV1 m s a h i) (ha : ∀ j, m'.1 a j = m.1 a j) (hh : ∀ j, m'.1 h j = m.1 h j) (h9 : s'.1 89 i = s.1 89 i) (h0 : s'.1 90 i = s.1 90 i) (h1 : ∀ k : Nat, k < 30 → s'.1 91 (30 * i + k) = s.1 91 (30 * i + k)) (h31 : (m.1 3 1).toInt ≤ (m'.1 3 1).toInt) : XV1 m' s' a h i := by
  rcases q with ⟨q1, q2⟩ | ⟨q1, q2, q3, q4, q5, q6, q7⟩
  · exact Or.inl ⟨by rw [ha]; exact q1, by rw [h9]; exact q2⟩
  · refine Or.inr ⟨by rw [ha]; exact q1, by rw [ha, h9]; exact q2, by rw [h9]; exact q3, by rw [ha, h0]; exact q4, by rw [h0]; exact q5, by rw [h0]; exact q6, fun k hk => ?_⟩
    rw [h0] at hk
    obtain ⟨z1, z2, z3⟩ := q7 k hk
    rw [hh, h1 k (by omega)]
    exact ⟨z1, z2, by omega⟩
def nV0 (W : List (Nat × Nat)) : Bool := and (noA W 58) (and (noA W 59) (and (noA W 62) (and (noA W 63) (and (noA W 89) (and (noA W 90) (noA W 91))))))
theorem XV.fr0 {W : List (Nat × Nat)} {m m' : sm_S} (h : XV m m) (F : Fr W m m') (hn : nV0 W = true) (h31 : (m.1 3 1).toInt ≤ (m'.1 3 1).toInt) : XV m' m' := by
  obtain ⟨n1, hn⟩ := Bool.and_eq_true_iff.mp hn
  obtain ⟨n2, hn⟩ := Bool.and_eq_true_iff.mp hn
  obtain ⟨n3, hn⟩ := Bool.and_eq_true_iff.mp hn
  obtain ⟨n4, hn⟩ := Bool.and_eq_true_iff.mp hn
  obtain ⟨n5, hn⟩ := Bool.and_eq_true_iff.mp hn
  obtain ⟨n6, n7⟩ := Bool.and_eq_true_iff.mp hn
  exact ⟨h.1.cg (noA.e F n1) (noA.e F n2) (noA.e F n5 0) (noA.e F n6 0) (fun k _ => noA.e F n7 _) h31, h.2.cg (noA.e F n3) (noA.e F n4) (noA.e F n5 1) (noA.e F n6 1) (fun k _ => noA.e F n7 _) h31⟩
def nV (W : List (Nat × Nat)) : Bool := and (noC1 W 3 1) (nV0 W)
theorem XV.fr {W : List (Nat × Nat)} {m m' : sm_S} (h : XV m m) (F : Fr W m m') (hn : nV W = true) : XV m' m' := by
  obtain ⟨n1, n2⟩ := Bool.and_eq_true_iff.mp hn
  exact h.fr0 F n2 (by rw [noC1.e F n1]; exact Int.le_refl _)
def RV (m : sm_S) : Prop := RR m ∧ XV m m
def nXV (W : List (Nat × Nat)) : Bool := and (nX W W) (nV W)
theorem RV.fr {W : List (Nat × Nat)} {m m' : sm_S} (h : RV m) (F : Fr W m m') (hn : nXV W = true) : RV m' := by
  obtain ⟨n1, n2⟩ := Bool.and_eq_true_iff.mp hn
  exact ⟨h.1.fr F n1, h.2.fr F n2⟩
theorem RV.sp {W V : List (Nat × Nat)} {m m1 m2 : sm_S} (h : RV m) (q : RR m2) (F : Fr W m m1) (G : Fr V m1 m2) (hn : nV W = true) (hv : nV V = true) : RV m2 := ⟨q, (h.2.fr F hn).fr G hv⟩
theorem RV.land {m : sm_S} {r r' : Int32 × sm_S} (h : RV m) (q : RR r'.2) (hI : zI m) (hJ : zI r.2) (hC : zC r.2) (e1 : fX11_land m = some r) (F1 : Fr wX11_land m r.2) (F2 : Fr wX12_land r.2 r'.2) : RV r'.2 := by
  obtain ⟨a, b, ea, -, -, -, q3⟩ := tq_land (h.1.mid F1 rfl) hI hJ hC
  obtain rfl := Option.some.inj (ea.symm.trans e1)
  have z : XV a.2 a.2 := h.2.fr0 F1 (by decide +kernel) q3
  exact ⟨q, z.fr F2 (by decide +kernel)⟩
theorem RV.tour {x1 : Int32} {m : sm_S} {r r' : Int32 × sm_S} (h : RV m) (q : RR r'.2) (hI : zI m) (hJ : zI r.2) (e1 : fX11_tour x1 m = some r) (F1 : Fr wX11_tour m r.2) (e2 : fX12_tour x1 r.2 = some r') (F2 : Fr wX12_tour r.2 r'.2) : RV r'.2 := by
  refine ⟨q, ?_⟩
  -- the class alone writes the text's length first: the land is the same
  have hT : XT m r.2 := h.1.1.fr Fr.refl (W := []) F1 (by decide +kernel)
  have hL : XL m r.2 := h.1.2.1.fr Fr.refl (W := []) F1 (by decide +kernel)
  have s12 := s_t12 hT hL hI hJ e2
  have s11 := s_t11 hI e1
  have f58 : ∀ j : Nat, r'.2.1 58 j = r.2.1 58 j := fun j => noA.e F2 rfl j
  have f59 : ∀ j : Nat, r'.2.1 59 j = r.2.1 59 j := fun j => noA.e F2 rfl j
  have f62 : ∀ j : Nat, r'.2.1 62 j = r.2.1 62 j := fun j => noA.e F2 rfl j
  have f63 : ∀ j : Nat, r'.2.1 63 j = r.2.1 63 j := fun j => noA.e F2 rfl j
  have f31 : r'.2.1 3 1 = m.1 3 1 := (noC1.e F2 rfl).trans (noC1.e F1 rfl)
  have g89 : ∀ j : Nat, r.2.1 89 j = m.1 89 j := fun j => noA.e F1 rfl j
  have g90 : ∀ j : Nat, r.2.1 90 j = m.1 90 j := fun j => noA.e F1 rfl j
  have g91 : ∀ j : Nat, r.2.1 91 j = m.1 91 j := fun j => noA.e F1 rfl j
  have same : (∀ j : Nat, r.2.1 58 j = m.1 58 j ∧ r.2.1 59 j = m.1 59 j ∧ r.2.1 62 j = m.1 62 j ∧ r.2.1 63 j = m.1 63 j) → UNv r.2 r'.2 → XV r'.2 r'.2 := by
    intro u v
    refine ⟨h.2.1.cg (fun j => by rw [f58]; exact (u j).1) (fun j => by rw [f59]; exact (u j).2.1) (by rw [(v 0).1, g89]) (by rw [(v 0).2.1, g90]) (fun k _ => by rw [(v _).2.2, g91]) (by rw [f31]; exact Int.le_refl _), h.2.2.cg (fun j => by rw [f62]; exact (u j).2.2.1) (fun j => by rw [f63]; exact (u j).2.2.2) (by rw [(v 1).1, g89]) (by rw [(v 1).2.1, g90]) (fun k _ => by rw [(v _).2.2, g91]) (by rw [f31]; exact Int.le_refl _)⟩
  have laid : ∀ a b i : Nat, (∀ j : Nat, r'.2.1 a j = r.2.1 a j) → (∀ j : Nat, r'.2.1 b j = r.2.1 b j) → GDt m (m.1 1 1).toInt → SCv m a b (m.1 1 1).toInt r.2 → STv m r.2 i (m.1 1 1).toInt r'.2 → XV1 r'.2 r'.2 a b i := by
    intro a b i fa fb hG hS hT2
    obtain ⟨g1, g2, g3, g4⟩ := hG
    obtain ⟨c0, c1, c2, c3⟩ := hS
    obtain ⟨t0, t1, t2, -, -⟩ := hT2
    unfold cOK at g3
    refine Or.inr ⟨?_, ?_, ?_, ?_, ?_, ?_, fun k hk => ?_⟩
    · rw [fa, c0]; decide
    · rw [fa, c1, t0]
    · rw [t0]; exact g3.1
    · rw [fa]; exact eqI.mpr (by rw [c2, t1])
    · omega
    · omega
    · obtain ⟨o1, o2, -⟩ := g4 k (by omega)
      rw [fb, c3 k (by omega), t2 k (by omega), f31]
      exact ⟨rfl, o1, o2⟩
  have l0 := L0
  have l1 := L1
  have n0 : x1.toInt = 0 → x1.toNatClampNeg = 0 := fun z => by
    have := a_tn (x := x1) (by omega)
    omega
  have n1 : x1.toInt = 1 → x1.toNatClampNeg = 1 := fun z => by
    have := a_tn (x := x1) (by omega)
    omega
  rcases s11 with ⟨k1, u⟩ | ⟨k1, ⟨p, hp⟩, u⟩ | ⟨k1, hG, hS, u⟩ | ⟨k1, hG, hS, u⟩
  · rcases s12 with ⟨-, v⟩ | ⟨k2, -⟩
    · exact same u v
    · omega
  · rcases s12 with ⟨k2, -⟩ | ⟨-, ⟨hG, -⟩ | ⟨-, v⟩⟩
    · omega
    · exact absurd (hG.no hp) id
    · exact same u v
  · rcases s12 with ⟨k2, -⟩ | ⟨-, ⟨-, v⟩ | ⟨⟨p, hp⟩, -⟩⟩
    · omega
    · rw [n0 k1] at v
      refine ⟨laid 58 59 0 f58 f59 hG hS v, ?_⟩
      obtain ⟨-, -, -, v4, v5⟩ := v
      exact h.2.2.cg (fun j => by rw [f62]; exact (u j).1) (fun j => by rw [f63]; exact (u j).2) (by rw [(v4 1 (by decide)).1, g89]) (by rw [(v4 1 (by decide)).2, g90]) (fun k _ => by rw [v5 _ (by omega), g91]) (by rw [f31]; exact Int.le_refl _)
    · exact absurd (hG.no hp) id
  · rcases s12 with ⟨k2, -⟩ | ⟨-, ⟨-, v⟩ | ⟨⟨p, hp⟩, -⟩⟩
    · omega
    · rw [n1 k1] at v
      refine ⟨?_, laid 62 63 1 f62 f63 hG hS v⟩
      obtain ⟨-, -, -, v4, v5⟩ := v
      exact h.2.1.cg (fun j => by rw [f58]; exact (u j).1) (fun j => by rw [f59]; exact (u j).2) (by rw [(v4 0 (by decide)).1, g89]) (by rw [(v4 0 (by decide)).2, g90]) (fun k _ => by rw [v5 _ (by omega), g91]) (by rw [f31]; exact Int.le_refl _)
    · exact absurd (hG.no hp) id
