/-! CELLS THAT ARE NEVER WRITTEN: the rows' lengths -/
def NK (m : sm_S) : Prop := (m.1 32 0).toInt = 16384 ∧ (m.1 29 0).toInt = 3072 ∧ (m.1 49 0).toInt = 16384
def nN (W : List (Nat × Nat)) : Bool := and (noC1 W 32 0) (and (noC1 W 29 0) (noC1 W 49 0))
theorem NK.fr {W : List (Nat × Nat)} {m m' : sm_S} (h : NK m) (F : Fr W m m') (hn : nN W = true) : NK m' := by
  obtain ⟨n1, hn⟩ := Bool.and_eq_true_iff.mp hn
  obtain ⟨n2, n3⟩ := Bool.and_eq_true_iff.mp hn
  exact ⟨by rw [noC1.e F n1]; exact h.1, by rw [noC1.e F n2]; exact h.2.1, by rw [noC1.e F n3]; exact h.2.2⟩
def RN (m : sm_S) : Prop := RR m ∧ NK m
def nXN (W : List (Nat × Nat)) : Bool := and (nX W W) (nN W)
theorem RN.fr {W : List (Nat × Nat)} {m m' : sm_S} (h : RN m) (F : Fr W m m') (hn : nXN W = true) : RN m' := by
  obtain ⟨n1, n2⟩ := Bool.and_eq_true_iff.mp hn
  exact ⟨h.1.fr F n1, h.2.fr F n2⟩
/-- a pair of calls that the relation has by itself -/
theorem RN.sp {W V : List (Nat × Nat)} {m m1 m2 : sm_S} (h : RN m) (q : RR m2) (F : Fr W m m1) (G : Fr V m1 m2) (hn : nN W = true) (hv : nN V = true) : RN m2 := ⟨q, (h.2.fr F hn).fr G hv⟩
