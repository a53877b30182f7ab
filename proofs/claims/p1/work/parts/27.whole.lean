/-! THE LAW of at most one call -/
theorem p_next5 (xs : Nat → Int32) (n : Nat) (m : sm_S) : fL_law 5 xs (n + 1) (0 + 5) m = some () := by
  rw [fL_law.eq_2]
  exact if_pos (by decide)
set_option maxRecDepth 20000 in
set_option maxHeartbeats 4000000 in
theorem p_law (xs : Nat → Int32) (n : Nat) : fL_law 5 xs (n + 1 + 1) 0 sm_n0 = some () := by
  have e0 : sm_ix (0 : Int32) 5 := by decide
  have e1 : sm_ix ((0 : Int32) + 1) 5 := by decide
  have e2 : sm_ix ((0 : Int32) + 2) 5 := by decide
  have e3 : sm_ix ((0 : Int32) + 3) 5 := by decide
  have e4 : sm_ix ((0 : Int32) + 4) 5 := by decide
  rw [fL_law.eq_2, if_neg (by decide : ¬ (Int32.ofNat 5 - 5 < 0)), if_pos e0]
  by_cases h0 : (xs (0 : Int32).toNatClampNeg &&& (63 : Int32)) = 0
  · obtain ⟨r, q, g1, g2, g3⟩ := o_sign (xs ((0 : Int32) + 1).toNatClampNeg)
    rw [if_pos h0, if_pos e1, g1, Option.bind_some, if_pos e1, g2, Option.bind_some, if_pos g3]
    exact p_next5 xs n _
  rw [if_neg h0]
  by_cases h1 : (xs (0 : Int32).toNatClampNeg &&& (63 : Int32)) = 1
  · obtain ⟨r, q, g1, g2, g3⟩ := o_end (xs ((0 : Int32) + 1).toNatClampNeg)
    rw [if_pos h1, if_pos e1, g1, Option.bind_some, if_pos e1, g2, Option.bind_some, if_pos g3]
    exact p_next5 xs n _
  rw [if_neg h1]
  by_cases h2 : (xs (0 : Int32).toNatClampNeg &&& (63 : Int32)) = 2
  · obtain ⟨r, q, g1, g2, g3⟩ := o_land 
    rw [if_pos h2, g1, Option.bind_some, g2, Option.bind_some, if_pos g3]
    exact p_next5 xs n _
  rw [if_neg h2]
  by_cases h3 : (xs (0 : Int32).toNatClampNeg &&& (63 : Int32)) = 3
  · obtain ⟨q, g1, g2, g3⟩ := o_hedge (xs ((0 : Int32) + 1).toNatClampNeg) (xs ((0 : Int32) + 2).toNatClampNeg)
    rw [if_pos h3, if_pos e1, if_pos e2, g1, Option.bind_some, if_pos e1, if_pos e2, g2, Option.bind_some, show fX12_thrown q.2 = some 1 from congrArg some g3, Option.bind_some]
    exact (if_pos rfl).trans ((if_neg (by decide)).trans (p_next5 xs n _))
  rw [if_neg h3]
  by_cases h4 : (xs (0 : Int32).toNatClampNeg &&& (63 : Int32)) = 4
  · obtain ⟨r, q, g1, g2, g3⟩ := o_grass (xs ((0 : Int32) + 1).toNatClampNeg) (xs ((0 : Int32) + 2).toNatClampNeg)
    rw [if_pos h4, if_pos e1, if_pos e2, g1, Option.bind_some, if_pos e1, if_pos e2, g2, Option.bind_some, if_pos g3]
    exact p_next5 xs n _
  rw [if_neg h4]
  by_cases h5 : (xs (0 : Int32).toNatClampNeg &&& (63 : Int32)) = 5
  · obtain ⟨r, q, g1, g2, g3⟩ := o_set (xs ((0 : Int32) + 1).toNatClampNeg) (xs ((0 : Int32) + 2).toNatClampNeg) (xs ((0 : Int32) + 3).toNatClampNeg)
    rw [if_pos h5, if_pos e1, if_pos e2, if_pos e3, g1, Option.bind_some, if_pos e1, if_pos e2, if_pos e3, g2, Option.bind_some, if_pos g3]
    exact p_next5 xs n _
  rw [if_neg h5]
  by_cases h6 : (xs (0 : Int32).toNatClampNeg &&& (63 : Int32)) = 6
  · obtain ⟨r, q, g1, g2, g3⟩ := o_sheet (xs ((0 : Int32) + 1).toNatClampNeg) (xs ((0 : Int32) + 2).toNatClampNeg) (xs ((0 : Int32) + 3).toNatClampNeg) (xs ((0 : Int32) + 4).toNatClampNeg)
    rw [if_pos h6, if_pos e1, if_pos e2, if_pos e3, if_pos e4, g1, Option.bind_some, if_pos e1, if_pos e2, if_pos e3, if_pos e4, g2, Option.bind_some, if_pos g3]
    exact p_next5 xs n _
  rw [if_neg h6]
  by_cases h7 : (xs (0 : Int32).toNatClampNeg &&& (63 : Int32)) = 7
  · obtain ⟨r, q, g1, g2, g3⟩ := o_walk (xs ((0 : Int32) + 1).toNatClampNeg)
    rw [if_pos h7, if_pos e1, g1, Option.bind_some, if_pos e1, g2, Option.bind_some, if_pos g3]
    exact p_next5 xs n _
  rw [if_neg h7]
  by_cases h8 : (xs (0 : Int32).toNatClampNeg &&& (63 : Int32)) = 8
  · obtain ⟨r, q, g1, g2, g3⟩ := o_rest (xs ((0 : Int32) + 1).toNatClampNeg)
    rw [if_pos h8, if_pos e1, g1, Option.bind_some, if_pos e1, g2, Option.bind_some, if_pos g3]
    exact p_next5 xs n _
  rw [if_neg h8]
  by_cases h9 : (xs (0 : Int32).toNatClampNeg &&& (63 : Int32)) = 9
  · obtain ⟨r, q, g1, g2, g3⟩ := o_undo 
    rw [if_pos h9, g1, Option.bind_some, g2, Option.bind_some, if_pos g3]
    exact p_next5 xs n _
  rw [if_neg h9]
  by_cases h10 : (xs (0 : Int32).toNatClampNeg &&& (63 : Int32)) = 10
  · obtain ⟨r, q, g1, g2, g3⟩ := o_go (xs ((0 : Int32) + 1).toNatClampNeg)
    rw [if_pos h10, if_pos e1, g1, Option.bind_some, if_pos e1, g2, Option.bind_some, if_pos g3]
    exact p_next5 xs n _
  rw [if_neg h10]
  by_cases h11 : (xs (0 : Int32).toNatClampNeg &&& (63 : Int32)) = 11
  · obtain ⟨r, q, g1, g2, g3⟩ := o_can 
    rw [if_pos h11, g1, Option.bind_some, g2, Option.bind_some, if_pos g3]
    exact p_next5 xs n _
  rw [if_neg h11]
  by_cases h12 : (xs (0 : Int32).toNatClampNeg &&& (63 : Int32)) = 12
  · obtain ⟨r, q, g1, g2, g3⟩ := o_tour (xs ((0 : Int32) + 1).toNatClampNeg)
    rw [if_pos h12, if_pos e1, g1, Option.bind_some, if_pos e1, g2, Option.bind_some, if_pos g3]
    exact p_next5 xs n _
  rw [if_neg h12]
  by_cases h13 : (xs (0 : Int32).toNatClampNeg &&& (63 : Int32)) = 13
  · obtain ⟨r, q, g1, g2, g3⟩ := o_look (xs ((0 : Int32) + 1).toNatClampNeg)
    rw [if_pos h13, if_pos e1, g1, Option.bind_some, if_pos e1, g2, Option.bind_some, if_pos g3]
    exact p_next5 xs n _
  rw [if_neg h13]
  by_cases h14 : (xs (0 : Int32).toNatClampNeg &&& (63 : Int32)) = 14
  · obtain ⟨r, q, g1, g2, g3⟩ := o_meets (xs ((0 : Int32) + 1).toNatClampNeg)
    rw [if_pos h14, if_pos e1, g1, Option.bind_some, if_pos e1, g2, Option.bind_some, if_pos g3]
    exact p_next5 xs n _
  rw [if_neg h14]
  by_cases h15 : (xs (0 : Int32).toNatClampNeg &&& (63 : Int32)) = 15
  · obtain ⟨r, q, g1, g2, g3⟩ := o_apart 
    rw [if_pos h15, g1, Option.bind_some, g2, Option.bind_some, if_pos g3]
    exact p_next5 xs n _
  rw [if_neg h15]
  by_cases h16 : (xs (0 : Int32).toNatClampNeg &&& (63 : Int32)) = 16
  · obtain ⟨r, q, g1, g2, g3⟩ := o_season (xs ((0 : Int32) + 1).toNatClampNeg)
    rw [if_pos h16, if_pos e1, g1, Option.bind_some, if_pos e1, g2, Option.bind_some, if_pos g3]
    exact p_next5 xs n _
  rw [if_neg h16]
  by_cases h17 : (xs (0 : Int32).toNatClampNeg &&& (63 : Int32)) = 17
  · obtain ⟨r, q, g1, g2, g3⟩ := o_odd 
    rw [if_pos h17, g1, Option.bind_some, g2, Option.bind_some, if_pos g3]
    exact p_next5 xs n _
  rw [if_neg h17]
  by_cases h18 : (xs (0 : Int32).toNatClampNeg &&& (63 : Int32)) = 18
  · obtain ⟨r, q, g1, g2, g3⟩ := o_men 
    rw [if_pos h18, g1, Option.bind_some, g2, Option.bind_some, if_pos g3]
    exact p_next5 xs n _
  rw [if_neg h18]
  by_cases h19 : (xs (0 : Int32).toNatClampNeg &&& (63 : Int32)) = 19
  · obtain ⟨r, q, g1, g2, g3⟩ := o_trail (xs ((0 : Int32) + 1).toNatClampNeg)
    rw [if_pos h19, if_pos e1, g1, Option.bind_some, if_pos e1, g2, Option.bind_some, if_pos g3]
    exact p_next5 xs n _
  rw [if_neg h19]
  by_cases h20 : (xs (0 : Int32).toNatClampNeg &&& (63 : Int32)) = 20
  · obtain ⟨r, q, g1, g2, g3⟩ := o_round 
    rw [if_pos h20, g1, Option.bind_some, g2, Option.bind_some, if_pos g3]
    exact p_next5 xs n _
  rw [if_neg h20]
  by_cases h21 : (xs (0 : Int32).toNatClampNeg &&& (63 : Int32)) = 21
  · obtain ⟨r, q, g1, g2, g3⟩ := o_closed 
    rw [if_pos h21, g1, Option.bind_some, g2, Option.bind_some, if_pos g3]
    exact p_next5 xs n _
  rw [if_neg h21]
  by_cases h22 : (xs (0 : Int32).toNatClampNeg &&& (63 : Int32)) = 22
  · obtain ⟨r, q, g1, g2, g3⟩ := o_open 
    rw [if_pos h22, g1, Option.bind_some, g2, Option.bind_some, if_pos g3]
    exact p_next5 xs n _
  rw [if_neg h22]
  by_cases h23 : (xs (0 : Int32).toNatClampNeg &&& (63 : Int32)) = 23
  · obtain ⟨r, q, g1, g2, g3⟩ := o_most (xs ((0 : Int32) + 1).toNatClampNeg) (xs ((0 : Int32) + 2).toNatClampNeg)
    rw [if_pos h23, if_pos e1, if_pos e2, g1, Option.bind_some, if_pos e1, if_pos e2, g2, Option.bind_some, if_pos g3]
    exact p_next5 xs n _
  rw [if_neg h23]
  by_cases h24 : (xs (0 : Int32).toNatClampNeg &&& (63 : Int32)) = 24
  · obtain ⟨r, q, g1, g2, g3⟩ := o_home (xs ((0 : Int32) + 1).toNatClampNeg) (xs ((0 : Int32) + 2).toNatClampNeg)
    rw [if_pos h24, if_pos e1, if_pos e2, g1, Option.bind_some, if_pos e1, if_pos e2, g2, Option.bind_some, if_pos g3]
    exact p_next5 xs n _
  rw [if_neg h24]
  by_cases h25 : (xs (0 : Int32).toNatClampNeg &&& (63 : Int32)) = 25
  · obtain ⟨r, q, g1, g2, g3⟩ := o_soon (xs ((0 : Int32) + 1).toNatClampNeg) (xs ((0 : Int32) + 2).toNatClampNeg)
    rw [if_pos h25, if_pos e1, if_pos e2, g1, Option.bind_some, if_pos e1, if_pos e2, g2, Option.bind_some, if_pos g3]
    exact p_next5 xs n _
  rw [if_neg h25]
  by_cases h26 : (xs (0 : Int32).toNatClampNeg &&& (63 : Int32)) = 26
  · obtain ⟨r, q, g1, g2, g3⟩ := o_bridges 
    rw [if_pos h26, g1, Option.bind_some, g2, Option.bind_some, if_pos g3]
    exact p_next5 xs n _
  rw [if_neg h26]
  by_cases h27 : (xs (0 : Int32).toNatClampNeg &&& (63 : Int32)) = 27
  · obtain ⟨q, g1, g2, g3⟩ := o_reach (xs ((0 : Int32) + 1).toNatClampNeg)
    rw [if_pos h27, if_pos e1, g1, Option.bind_some, if_pos e1, g2, Option.bind_some, show fX12_thrown q.2 = some 1 from congrArg some g3, Option.bind_some]
    exact (if_pos rfl).trans ((if_neg (by decide)).trans (p_next5 xs n _))
  rw [if_neg h27]
  by_cases h28 : (xs (0 : Int32).toNatClampNeg &&& (63 : Int32)) = 28
  · obtain ⟨r, q, g1, g2, g3⟩ := o_gates (xs ((0 : Int32) + 1).toNatClampNeg)
    rw [if_pos h28, if_pos e1, g1, Option.bind_some, if_pos e1, g2, Option.bind_some, if_pos g3]
    exact p_next5 xs n _
  rw [if_neg h28]
  by_cases h29 : (xs (0 : Int32).toNatClampNeg &&& (63 : Int32)) = 29
  · obtain ⟨r, q, g1, g2, g3⟩ := o_heard (xs ((0 : Int32) + 1).toNatClampNeg) (xs ((0 : Int32) + 2).toNatClampNeg)
    rw [if_pos h29, if_pos e1, if_pos e2, g1, Option.bind_some, if_pos e1, if_pos e2, g2, Option.bind_some, if_pos g3]
    exact p_next5 xs n _
  rw [if_neg h29]
  by_cases h30 : (xs (0 : Int32).toNatClampNeg &&& (63 : Int32)) = 30
  · obtain ⟨r, q, g1, g2, g3⟩ := o_forget 
    rw [if_pos h30, g1, Option.bind_some, g2, Option.bind_some, if_pos g3]
    exact p_next5 xs n _
  rw [if_neg h30]
  by_cases h31 : (xs (0 : Int32).toNatClampNeg &&& (63 : Int32)) = 31
  · obtain ⟨r, q, g1, g2, g3⟩ := o_lands 
    rw [if_pos h31, g1, Option.bind_some, g2, Option.bind_some, if_pos g3]
    exact p_next5 xs n _
  rw [if_neg h31]
  by_cases h32 : (xs (0 : Int32).toNatClampNeg &&& (63 : Int32)) = 32
  · obtain ⟨r, q, g1, g2, g3⟩ := o_sure 
    rw [if_pos h32, g1, Option.bind_some, g2, Option.bind_some, if_pos g3]
    exact p_next5 xs n _
  rw [if_neg h32]
  by_cases h33 : (xs (0 : Int32).toNatClampNeg &&& (63 : Int32)) = 33
  · obtain ⟨r, q, g1, g2, g3⟩ := o_next 
    rw [if_pos h33, g1, Option.bind_some, g2, Option.bind_some, if_pos g3]
    exact p_next5 xs n _
  rw [if_neg h33]
  by_cases h34 : (xs (0 : Int32).toNatClampNeg &&& (63 : Int32)) = 34
  · obtain ⟨r, q, g1, g2, g3⟩ := o_lies 
    rw [if_pos h34, g1, Option.bind_some, g2, Option.bind_some, if_pos g3]
    exact p_next5 xs n _
  rw [if_neg h34]
  by_cases h35 : (xs (0 : Int32).toNatClampNeg &&& (63 : Int32)) = 35
  · obtain ⟨r, q, g1, g2, g3⟩ := o_quarrel 
    rw [if_pos h35, g1, Option.bind_some, g2, Option.bind_some, if_pos g3]
    exact p_next5 xs n _
  rw [if_neg h35]
  by_cases h36 : (xs (0 : Int32).toNatClampNeg &&& (63 : Int32)) = 36
  · obtain ⟨r, q, g1, g2, g3⟩ := o_keep (xs ((0 : Int32) + 1).toNatClampNeg)
    rw [if_pos h36, if_pos e1, g1, Option.bind_some, if_pos e1, g2, Option.bind_some, if_pos g3]
    exact p_next5 xs n _
  rw [if_neg h36]
  by_cases h37 : (xs (0 : Int32).toNatClampNeg &&& (63 : Int32)) = 37
  · obtain ⟨r, q, g1, g2, g3⟩ := o_again (xs ((0 : Int32) + 1).toNatClampNeg)
    rw [if_pos h37, if_pos e1, g1, Option.bind_some, if_pos e1, g2, Option.bind_some, if_pos g3]
    exact p_next5 xs n _
  rw [if_neg h37]
  by_cases h38 : (xs (0 : Int32).toNatClampNeg &&& (63 : Int32)) = 38
  · obtain ⟨r, q, g1, g2, g3⟩ := o_count (xs ((0 : Int32) + 1).toNatClampNeg)
    rw [if_pos h38, if_pos e1, g1, Option.bind_some, if_pos e1, g2, Option.bind_some, if_pos g3]
    exact p_next5 xs n _
  rw [if_neg h38]
  by_cases h39 : (xs (0 : Int32).toNatClampNeg &&& (63 : Int32)) = 39
  · obtain ⟨q, g1, g2, g3⟩ := o_row (xs ((0 : Int32) + 1).toNatClampNeg)
    rw [if_pos h39, if_pos e1, g1, Option.bind_some, if_pos e1, g2, Option.bind_some, show fX12_thrown q.2 = some 1 from congrArg some g3, Option.bind_some]
    exact (if_pos rfl).trans ((if_neg (by decide)).trans (p_next5 xs n _))
  rw [if_neg h39]
  exact p_next5 xs n _
theorem whole_start {p : Program} {e : Env} {s : State} {m : MethodId} {below : List Frame} {meth : Method} {c : Code} (l : Launch) (hflags : l.flags = flags0) {b L : Nat} {xs : Nat → Int32} (hL : L ≤ 5) (C0 : lw_At p s m meth c b L xs) : W p l e room_1 s m #[Value.ref b] below meth c s.heap [] 0 0 (lw_Z below #[Value.ref b] s) (entryFrame m ([Value.ref b] : List Value).toArray 7) := by
  have hl : l.stackTraces = false := by
    show (!l.flags.contains noTraceFlag) = false
    rw [hflags]; decide
  refine sm_begin l hl (n := 2) (by decide) C0 ?_
  rw [sm_m0_eq]
  rcases Nat.lt_or_ge L 5 with h | h
  · show fL_law L xs (1 + 1) 0 sm_n0 = some ()
    rw [fL_law.eq_2]
    refine if_pos ?_
    have h5 : L = 0 ∨ L = 1 ∨ L = 2 ∨ L = 3 ∨ L = 4 := by omega
    rcases h5 with rfl | rfl | rfl | rfl | rfl <;> decide
  · obtain rfl : L = 5 := by omega
    exact p_law xs 0
