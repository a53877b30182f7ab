theorem tB_zero (a k : Nat) : (tB a k).1 ≤ 0 ∧ 0 ≤ (tB a k).2 := by
  have h : tbL.all (fun l => l.all (fun p => and (decide (p.1 ≤ 0)) (decide (0 ≤ p.2)))) = true := by decide +kernel
  have hz : ∀ p : Int × Int, (∃ l ∈ tbL, p ∈ l) → p.1 ≤ 0 ∧ 0 ≤ p.2 := by
    rintro p ⟨l, hl, hp⟩
    have q := List.all_eq_true.mp (List.all_eq_true.mp h l hl) p hp
    exact ⟨of_decide_eq_true (Bool.and_eq_true_iff.mp q).1, of_decide_eq_true (Bool.and_eq_true_iff.mp q).2⟩
  have key : ∀ l : List (Int × Int), (∀ p ∈ l, p.1 ≤ 0 ∧ 0 ≤ p.2) → (tbS l k).1 ≤ 0 ∧ 0 ≤ (tbS l k).2 := by
    intro l hl
    have gd : ∀ l : List (Int × Int), (∀ p ∈ l, p.1 ≤ 0 ∧ 0 ≤ p.2) → (l.getD k (-2147483648, 2147483647)).1 ≤ 0 ∧ 0 ≤ (l.getD k (-2147483648, 2147483647)).2 := by
      intro l hl
      rw [List.getD_eq_getElem?_getD]
      cases hk : l[k]? with
      | none => exact ⟨by decide, by decide⟩
      | some p => exact hl p (List.mem_of_getElem? hk)
    unfold tbS
    split
    · exact hl _ List.mem_cons_self
    · exact gd _ hl
  unfold tB
  refine key _ (fun p hp => ?_)
  rw [List.getD_eq_getElem?_getD] at hp
  cases ha : tbL[a]? with
  | none => rw [ha] at hp; exact absurd hp List.not_mem_nil
  | some l => rw [ha] at hp; exact hz p ⟨l, List.mem_of_getElem? ha, hp⟩
theorem start_tb : ∀ a k : Nat, (tB a k).1 ≤ (sm_n0.1 a k).toInt ∧ (sm_n0.1 a k).toInt ≤ (tB a k).2 := by
  have h : (List.range 108).all (fun a => (List.range 64).all (fun k => and (decide ((tB a k).1 ≤ (sm_n0.1 a k).toInt)) (decide ((sm_n0.1 a k).toInt ≤ (tB a k).2)))) = true := by decide +kernel
  intro a k
  by_cases q : 108 ≤ a ∨ 64 ≤ k
  · have e : sm_n0.1 a k = 0 := sm_g0_sup a k q
    rw [e, L0]; exact tB_zero a k
  · have q2 := List.all_eq_true.mp (List.all_eq_true.mp h a (List.mem_range.mpr (by omega))) k (List.mem_range.mpr (by omega))
    exact ⟨of_decide_eq_true (Bool.and_eq_true_iff.mp q2).1, of_decide_eq_true (Bool.and_eq_true_iff.mp q2).2⟩
theorem start_z (a : Nat) (ha : a = 90 ∨ a = 91 ∨ a = 92 ∨ a = 106) (j : Nat) : sm_n0.1 a j = 0 := by
  rcases ha with rfl | rfl | rfl | rfl <;> rfl
theorem start_zI : zI sm_n0 := by
  refine ⟨start_tb, ⟨by decide, fun j hj => ?_⟩, fun j => ?_, fun j => ?_⟩
  · have e : (sm_n0.1 72 25).toInt = 0 := by decide
    omega
  · rw [start_z 91 (by decide) j, start_z 92 (by decide) j, start_z 90 (by decide) j, L0]
    exact ⟨Or.inr rfl, Or.inr rfl, fun q => absurd q (by decide)⟩
  · rw [start_z 106 (by decide) j, L0]
    exact ⟨fun _ => ⟨by decide, by decide⟩, fun _ => ⟨by decide, by decide⟩⟩
theorem start_zC : zC sm_n0 := by
  have e : (sm_n0.1 72 6).toInt = 0 := by decide
  have e2 : sm_n0.1 72 14 = 0 := rfl
  refine ⟨fun j hj => by omega, fun i hi hb => ?_⟩
  rw [e2, b_0] at hb; cases hb
theorem start_RR : RR sm_n0 := by
  have e1 : (sm_n0.1 1 1).toInt = 0 := by decide
  have e2 : (sm_n0.1 3 0).toInt = 0 := by decide
  have e3 : (sm_n0.1 3 1).toInt = 0 := by decide
  have e4 : (sm_n0.1 51 0).toInt = 0 := by decide
  refine ⟨⟨by decide, fun j hj => ?_⟩, ⟨⟨by decide, by decide, fun j hj => ?_, fun j hj => ?_⟩, by decide, by decide⟩, by decide, fun j hj => ?_⟩
  · rw [e1] at hj; omega
  · rw [e2] at hj; omega
  · rw [e3] at hj; omega
  · rw [e4] at hj; omega
theorem start_RV : RV sm_n0 := ⟨start_RR, Or.inl ⟨by decide, by decide⟩, Or.inl ⟨by decide, by decide⟩⟩
theorem whole_start {p : Program} {e : Env} {s : State} {m : MethodId} {below : List Frame} {meth : Method} {c : Code} (l : Launch) (hflags : l.flags = flags0) {b L : Nat} {xs : Nat → Int32} (hL : L ≤ 2560) (C0 : lw_At p s m meth c b L xs) : W p l e room_1 s m #[Value.ref b] below meth c s.heap [] 0 0 (lw_Z below #[Value.ref b] s) (entryFrame m ([Value.ref b] : List Value).toArray 7) := by
  have hl : l.stackTraces = false := by
    show (!l.flags.contains noTraceFlag) = false
    rw [hflags]; decide
  refine sm_begin l hl (n := 513) (by decide) C0 ?_
  rw [sm_m0_eq]
  have l0 := L0
  obtain ⟨u, e, -⟩ := law_ok L hL xs 513 0 sm_n0 (by omega) ⟨start_zI, start_zC⟩ start_RV
  exact e
