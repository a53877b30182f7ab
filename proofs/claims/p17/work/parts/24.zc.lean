/-- behind every call: what is told of hedges stands, as do gates -/
def zC (m : sm_S) : Prop := (∀ j : Nat, (j : Int) < (m.1 72 6).toInt → (m.1 76 j).toInt < (m.1 72 3).toInt ∧ (m.1 77 j).toInt < (m.1 72 3).toInt ∧ (m.1 76 j).toInt ≠ (m.1 77 j).toInt) ∧ (∀ i : Nat, i < 32 → bt (m.1 72 14) i = true → (i : Int) < (m.1 72 6).toInt)
def noC (W : List (Nat × Nat)) : Bool := and (!inW W 72 6) (and (!inW W 72 3) (and (!inW W 72 14) (W.all (fun p => and (!(Nat.beq p.1 76)) (!(Nat.beq p.1 77))))))
theorem noC_arr {W : List (Nat × Nat)} {a : Nat} (h : W.all (fun p => and (!(Nat.beq p.1 76)) (!(Nat.beq p.1 77))) = true) (ha : a = 76 ∨ a = 77) (j : Nat) : inW W a j = false := by
  cases hi : inW W a j with
  | false => rfl
  | true =>
    obtain ⟨p, hp, e⟩ := List.any_eq_true.mp hi
    have h1 := List.all_eq_true.mp h p hp
    have e1 := Nat.eq_of_beq_eq_true (Bool.and_eq_true_iff.mp e).1
    rcases ha with rfl | rfl
    · rw [e1] at h1; exact absurd h1 (by decide)
    · rw [e1] at h1; exact absurd h1 (by decide)
theorem zC.fr {W : List (Nat × Nat)} {m m' : sm_S} (h : zC m) (hF : Fr W m m') (hn : noC W = true) : zC m' := by
  unfold noC at hn
  obtain ⟨n1, hn⟩ := Bool.and_eq_true_iff.mp hn
  obtain ⟨n2, hn⟩ := Bool.and_eq_true_iff.mp hn
  obtain ⟨n3, n4⟩ := Bool.and_eq_true_iff.mp hn
  have f1 := hF 72 6 (by simpa using n1)
  have f2 := hF 72 3 (by simpa using n2)
  have f3 := hF 72 14 (by simpa using n3)
  refine ⟨fun j hj => ?_, fun i hi hb => ?_⟩
  · rw [hF 76 j (noC_arr n4 (Or.inl rfl) j), hF 77 j (noC_arr n4 (Or.inr rfl) j), f2]
    rw [f1] at hj
    exact h.1 j hj
  · rw [f3] at hb
    rw [f1]
    exact h.2 i hi hb
