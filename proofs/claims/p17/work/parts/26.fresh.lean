/-! THE FRESH STATE, by a table -/
def sm_il : List (Nat × Int32) → Nat → Int32
  | [], _ => 0
  | q :: t, j => cond (Nat.beq q.1 j) q.2 (sm_il t j)
def sm_ic : List (Nat × List (Nat × Int32)) → Nat → List (Nat × Int32)
  | [], _ => []
  | q :: t, c => cond (Nat.beq q.1 c) q.2 (sm_ic t c)
def sm_gt : List (Nat × List (Nat × Int32)) := [(3, [(2, 9), (3, 600)]), (17, [(0, -1), (1, -1), (2, -1), (3, -1), (4, -1), (5, -1), (6, -1), (7, -1), (8, -1), (9, -1), (10, -1), (11, -1), (12, -1), (13, -1)]), (19, [(0, -1), (1, -1), (2, -1), (3, -1), (4, -1), (5, -1), (6, -1), (7, -1), (8, -1), (9, -1), (10, -1), (11, -1), (12, -1), (13, -1)]), (29, [(0, 3072)]), (31, [(1, 1)]), (32, [(0, 16384)]), (34, [(2, 1)]), (49, [(0, 16384)]), (67, [(0, -1), (1, -1), (2, -1), (3, -1), (4, -1), (5, -1), (6, -1), (7, -1), (8, -1), (9, -1), (10, -1), (11, -1), (12, -1), (13, -1)]), (69, [(0, -1), (1, -1), (2, -1), (3, -1), (4, -1), (5, -1), (6, -1), (7, -1), (8, -1), (9, -1), (10, -1), (11, -1), (12, -1), (13, -1)]), (71, [(0, -1), (1, -1), (2, -1), (3, -1), (4, -1), (5, -1), (6, -1), (7, -1), (8, -1), (9, -1), (10, -1), (11, -1), (12, -1), (13, -1)]), (72, [(15, 9), (16, 600)]), (89, [(0, -1), (1, -1)])]
def sm_g0 : Nat → Nat → Int32 := fun c j => sm_il (sm_ic sm_gt c) j
def sm_n0 : sm_S := (sm_g0, fun _ _ => 0)
theorem sm_il_sup : ∀ (l : List (Nat × Int32)) (j : Nat), (∀ q ∈ l, q.1 < 64) → 64 ≤ j → sm_il l j = 0
  | [], _, _, _ => rfl
  | q :: t, j, h, hj => by
    have h1 := h q List.mem_cons_self
    show cond (Nat.beq q.1 j) q.2 (sm_il t j) = 0
    have e : Nat.beq q.1 j = false := by
      cases hb : Nat.beq q.1 j with
      | false => rfl
      | true => exact absurd (Nat.eq_of_beq_eq_true hb) (by omega)
    rw [e]
    exact sm_il_sup t j (fun q hq => h q (List.mem_cons_of_mem _ hq)) hj
theorem sm_ic_sup : ∀ (t : List (Nat × List (Nat × Int32))) (c : Nat), (∀ q ∈ t, ∀ y ∈ q.2, y.1 < 64) → ∀ y ∈ sm_ic t c, y.1 < 64
  | [], _, _ => fun _ h => absurd h List.not_mem_nil
  | q :: t, c, h => by
    show ∀ y ∈ cond (Nat.beq q.1 c) q.2 (sm_ic t c), y.1 < 64
    cases Nat.beq q.1 c with
    | true => exact h q List.mem_cons_self
    | false => exact sm_ic_sup t c (fun q hq => h q (List.mem_cons_of_mem _ hq))
theorem sm_ic_none : ∀ (t : List (Nat × List (Nat × Int32))) (c : Nat), (∀ q ∈ t, q.1 < 108) → 108 ≤ c → sm_ic t c = []
  | [], _, _, _ => rfl
  | q :: t, c, h, hc => by
    have h1 := h q List.mem_cons_self
    show cond (Nat.beq q.1 c) q.2 (sm_ic t c) = []
    have e : Nat.beq q.1 c = false := by
      cases hb : Nat.beq q.1 c with
      | false => rfl
      | true => exact absurd (Nat.eq_of_beq_eq_true hb) (by omega)
    rw [e]
    exact sm_ic_none t c (fun q hq => h q (List.mem_cons_of_mem _ hq)) hc
def sm_gsup (g : Nat → Nat → Int32) : Prop := ∀ c j : Nat, 108 ≤ c ∨ 64 ≤ j → g c j = 0
theorem sm_g0_sup : sm_gsup sm_g0 := by
  intro c j h
  rcases h with h | h
  · show sm_il (sm_ic sm_gt c) j = 0
    have h9 : sm_gt.all (fun q => decide (q.1 < 108)) = true := by decide +kernel
    rw [sm_ic_none sm_gt c (fun q hq => of_decide_eq_true (List.all_eq_true.mp h9 q hq)) h]
    rfl
  · exact sm_il_sup _ j (sm_ic_sup sm_gt c (by
      have h9 : sm_gt.all (fun q => q.2.all (fun y => decide (y.1 < 64))) = true := by decide +kernel
      intro q hq y hy
      exact of_decide_eq_true (List.all_eq_true.mp (List.all_eq_true.mp h9 q hq) y hy))) h
theorem sm_gsup_u {g : Nat → Nat → Int32} {a k : Nat} {v : Int32} (ha : a < 108) (hk : k < 64) (h : sm_gsup g) : sm_gsup (sm_u g a k v) := fun c j hj => by
  show cond (Nat.beq c a) (cond (Nat.beq j k) v (g c j)) (g c j) = 0
  cases hb : Nat.beq c a with
  | false => exact h c j hj
  | true =>
    cases hd : Nat.beq j k with
    | false => exact h c j hj
    | true =>
      have e1 := Nat.eq_of_beq_eq_true hb
      have e2 := Nat.eq_of_beq_eq_true hd
      omega
theorem sm_gsup_z {g : Nat → Nat → Int32} {a : Nat} (h : sm_gsup g) : sm_gsup (sm_z g a 0) := fun c j hj => by
  show cond (Nat.beq c a) 0 (g c j) = 0
  cases Nat.beq c a with
  | true => rfl
  | false => exact h c j hj
theorem sgz0 : sm_gsup gz0 := fun _ _ _ => rfl
theorem slz0 : ∀ c j : Nat, lz0 c j = 0 := fun _ _ => rfl
theorem sm_lz {g : Nat → Nat → Int64} {a : Nat} (h : ∀ c j : Nat, g c j = 0) (c j : Nat) : sm_z g a 0 c j = 0 := by
  show cond (Nat.beq c a) 0 (g c j) = 0
  rw [h c j]
  cases Nat.beq c a <;> rfl
theorem sgz1 : sm_gsup gz1 := sm_gsup_z sgz0
theorem slz1 : ∀ c j : Nat, lz1 c j = 0 := sm_lz slz0
theorem sgz2 : sm_gsup gz2 := sm_gsup_z sgz1
theorem slz2 : ∀ c j : Nat, lz2 c j = 0 := sm_lz slz1
theorem sgz3 : sm_gsup gz3 := sm_gsup_z sgz2
theorem slz3 : ∀ c j : Nat, lz3 c j = 0 := sm_lz slz2
theorem sgz4 : sm_gsup gz4 := sm_gsup_u (by decide) (by decide) (sm_gsup_u (by decide) (by decide) (sm_gsup_u (by decide) (by decide) (sm_gsup_u (by decide) (by decide) (sm_gsup_u (by decide) (by decide) (sgz3)))))
theorem sgz5 : sm_gsup gz5 := sm_gsup_z sgz4
theorem slz4 : ∀ c j : Nat, lz4 c j = 0 := sm_lz slz3
theorem sgz6 : sm_gsup gz6 := sm_gsup_u (by decide) (by decide) (sm_gsup_u (by decide) (by decide) (sm_gsup_u (by decide) (by decide) (sm_gsup_u (by decide) (by decide) (sgz5))))
theorem sgz7 : sm_gsup gz7 := sm_gsup_z sgz6
theorem slz5 : ∀ c j : Nat, lz5 c j = 0 := sm_lz slz4
theorem sgz8 : sm_gsup gz8 := sm_gsup_z sgz7
theorem slz6 : ∀ c j : Nat, lz6 c j = 0 := sm_lz slz5
theorem sgz9 : sm_gsup gz9 := sm_gsup_z sgz8
theorem slz7 : ∀ c j : Nat, lz7 c j = 0 := sm_lz slz6
theorem sgz10 : sm_gsup gz10 := sm_gsup_z sgz9
theorem slz8 : ∀ c j : Nat, lz8 c j = 0 := sm_lz slz7
theorem sgz11 : sm_gsup gz11 := sm_gsup_z sgz10
theorem slz9 : ∀ c j : Nat, lz9 c j = 0 := sm_lz slz8
theorem sgz12 : sm_gsup gz12 := sm_gsup_z sgz11
theorem slz10 : ∀ c j : Nat, lz10 c j = 0 := sm_lz slz9
theorem sgz13 : sm_gsup gz13 := sm_gsup_z sgz12
theorem slz11 : ∀ c j : Nat, lz11 c j = 0 := sm_lz slz10
theorem sgz14 : sm_gsup gz14 := sm_gsup_z sgz13
theorem slz12 : ∀ c j : Nat, lz12 c j = 0 := sm_lz slz11
theorem sgz15 : sm_gsup gz15 := sm_gsup_z sgz14
theorem slz13 : ∀ c j : Nat, lz13 c j = 0 := sm_lz slz12
theorem sgz16 : sm_gsup gz16 := sm_gsup_z sgz15
theorem slz14 : ∀ c j : Nat, lz14 c j = 0 := sm_lz slz13
theorem sgz17 : sm_gsup gz17 := sm_gsup_z sgz16
theorem slz15 : ∀ c j : Nat, lz15 c j = 0 := sm_lz slz14
theorem sgz18 : sm_gsup gz18 := sm_gsup_z sgz17
theorem slz16 : ∀ c j : Nat, lz16 c j = 0 := sm_lz slz15
theorem sgz19 : sm_gsup gz19 := sm_gsup_u (by decide) (by decide) (sgz18)
theorem sgz20 : sm_gsup gz20 := sm_gsup_z sgz19
theorem slz17 : ∀ c j : Nat, lz17 c j = 0 := sm_lz slz16
theorem sgz21 : sm_gsup gz21 := sm_gsup_u (by decide) (by decide) (sm_gsup_u (by decide) (by decide) (sgz20))
theorem sgz22 : sm_gsup gz22 := sm_gsup_z sgz21
theorem slz18 : ∀ c j : Nat, lz18 c j = 0 := sm_lz slz17
theorem sgz23 : sm_gsup gz23 := sm_gsup_u (by decide) (by decide) (sgz22)
theorem sgz24 : sm_gsup gz24 := sm_gsup_u (by decide) (by decide) (sgz23)
theorem sgz25 : sm_gsup gz25 := sm_gsup_u (by decide) (by decide) (sgz24)
theorem sgz26 : sm_gsup gz26 := sm_gsup_u (by decide) (by decide) (sgz25)
theorem sgz27 : sm_gsup gz27 := sm_gsup_u (by decide) (by decide) (sgz26)
theorem sgz28 : sm_gsup gz28 := sm_gsup_u (by decide) (by decide) (sgz27)
theorem sgz29 : sm_gsup gz29 := sm_gsup_u (by decide) (by decide) (sgz28)
theorem sgz30 : sm_gsup gz30 := sm_gsup_u (by decide) (by decide) (sgz29)
theorem sgz31 : sm_gsup gz31 := sm_gsup_u (by decide) (by decide) (sgz30)
theorem sgz32 : sm_gsup gz32 := sm_gsup_u (by decide) (by decide) (sgz31)
theorem sgz33 : sm_gsup gz33 := sm_gsup_u (by decide) (by decide) (sgz32)
theorem sgz34 : sm_gsup gz34 := sm_gsup_u (by decide) (by decide) (sgz33)
theorem sgz35 : sm_gsup gz35 := sm_gsup_u (by decide) (by decide) (sgz34)
theorem sgz36 : sm_gsup gz36 := sm_gsup_u (by decide) (by decide) (sgz35)
theorem sgz37 : sm_gsup gz37 := sm_gsup_z sgz36
theorem slz19 : ∀ c j : Nat, lz19 c j = 0 := sm_lz slz18
theorem sgz38 : sm_gsup gz38 := sm_gsup_u (by decide) (by decide) (sm_gsup_u (by decide) (by decide) (sgz37))
theorem sgz39 : sm_gsup gz39 := sm_gsup_z sgz38
theorem slz20 : ∀ c j : Nat, lz20 c j = 0 := sm_lz slz19
theorem sgz40 : sm_gsup gz40 := sm_gsup_u (by decide) (by decide) (sgz39)
theorem sgz41 : sm_gsup gz41 := sm_gsup_u (by decide) (by decide) (sgz40)
theorem sgz42 : sm_gsup gz42 := sm_gsup_u (by decide) (by decide) (sgz41)
theorem sgz43 : sm_gsup gz43 := sm_gsup_u (by decide) (by decide) (sgz42)
theorem sgz44 : sm_gsup gz44 := sm_gsup_u (by decide) (by decide) (sgz43)
theorem sgz45 : sm_gsup gz45 := sm_gsup_u (by decide) (by decide) (sgz44)
theorem sgz46 : sm_gsup gz46 := sm_gsup_u (by decide) (by decide) (sgz45)
theorem sgz47 : sm_gsup gz47 := sm_gsup_u (by decide) (by decide) (sgz46)
theorem sgz48 : sm_gsup gz48 := sm_gsup_u (by decide) (by decide) (sgz47)
theorem sgz49 : sm_gsup gz49 := sm_gsup_u (by decide) (by decide) (sgz48)
theorem sgz50 : sm_gsup gz50 := sm_gsup_u (by decide) (by decide) (sgz49)
theorem sgz51 : sm_gsup gz51 := sm_gsup_u (by decide) (by decide) (sgz50)
theorem sgz52 : sm_gsup gz52 := sm_gsup_u (by decide) (by decide) (sgz51)
theorem sgz53 : sm_gsup gz53 := sm_gsup_u (by decide) (by decide) (sgz52)
theorem sgz54 : sm_gsup gz54 := sm_gsup_z sgz53
theorem slz21 : ∀ c j : Nat, lz21 c j = 0 := sm_lz slz20
theorem sgz55 : sm_gsup gz55 := sm_gsup_u (by decide) (by decide) (sm_gsup_u (by decide) (by decide) (sgz54))
theorem sgz56 : sm_gsup gz56 := sm_gsup_z sgz55
theorem slz22 : ∀ c j : Nat, lz22 c j = 0 := sm_lz slz21
theorem sgz57 : sm_gsup gz57 := sm_gsup_z sgz56
theorem slz23 : ∀ c j : Nat, lz23 c j = 0 := sm_lz slz22
theorem sgz58 : sm_gsup gz58 := sm_gsup_z sgz57
theorem slz24 : ∀ c j : Nat, lz24 c j = 0 := sm_lz slz23
theorem sgz59 : sm_gsup gz59 := sm_gsup_z sgz58
theorem slz25 : ∀ c j : Nat, lz25 c j = 0 := sm_lz slz24
theorem sgz60 : sm_gsup gz60 := sm_gsup_z sgz59
theorem slz26 : ∀ c j : Nat, lz26 c j = 0 := sm_lz slz25
theorem sgz61 : sm_gsup gz61 := sm_gsup_z sgz60
theorem slz27 : ∀ c j : Nat, lz27 c j = 0 := sm_lz slz26
theorem sgz62 : sm_gsup gz62 := sm_gsup_z sgz61
theorem slz28 : ∀ c j : Nat, lz28 c j = 0 := sm_lz slz27
theorem sgz63 : sm_gsup gz63 := sm_gsup_z sgz62
theorem slz29 : ∀ c j : Nat, lz29 c j = 0 := sm_lz slz28
theorem sgz64 : sm_gsup gz64 := sm_gsup_z sgz63
theorem slz30 : ∀ c j : Nat, lz30 c j = 0 := sm_lz slz29
theorem sgz65 : sm_gsup gz65 := sm_gsup_u (by decide) (by decide) (sgz64)
theorem sgz66 : sm_gsup gz66 := sm_gsup_z sgz65
theorem slz31 : ∀ c j : Nat, lz31 c j = 0 := sm_lz slz30
theorem sgz67 : sm_gsup gz67 := sm_gsup_z sgz66
theorem slz32 : ∀ c j : Nat, lz32 c j = 0 := sm_lz slz31
theorem sgz68 : sm_gsup gz68 := sm_gsup_z sgz67
theorem slz33 : ∀ c j : Nat, lz33 c j = 0 := sm_lz slz32
theorem sgz69 : sm_gsup gz69 := sm_gsup_u (by decide) (by decide) (sgz68)
theorem sgz70 : sm_gsup gz70 := sm_gsup_z sgz69
theorem slz34 : ∀ c j : Nat, lz34 c j = 0 := sm_lz slz33
theorem sgz71 : sm_gsup gz71 := sm_gsup_u (by decide) (by decide) (sgz70)
theorem sgz72 : sm_gsup gz72 := sm_gsup_z sgz71
theorem slz35 : ∀ c j : Nat, lz35 c j = 0 := sm_lz slz34
theorem sgz73 : sm_gsup gz73 := sm_gsup_z sgz72
theorem slz36 : ∀ c j : Nat, lz36 c j = 0 := sm_lz slz35
theorem sgz74 : sm_gsup gz74 := sm_gsup_u (by decide) (by decide) (sm_gsup_u (by decide) (by decide) (sgz73))
theorem sgz75 : sm_gsup gz75 := sm_gsup_z sgz74
theorem slz37 : ∀ c j : Nat, lz37 c j = 0 := sm_lz slz36
theorem sgz76 : sm_gsup gz76 := sm_gsup_z sgz75
theorem slz38 : ∀ c j : Nat, lz38 c j = 0 := sm_lz slz37
theorem sgz77 : sm_gsup gz77 := sm_gsup_z sgz76
theorem slz39 : ∀ c j : Nat, lz39 c j = 0 := sm_lz slz38
theorem sgz78 : sm_gsup gz78 := sm_gsup_z sgz77
theorem slz40 : ∀ c j : Nat, lz40 c j = 0 := sm_lz slz39
theorem sgz79 : sm_gsup gz79 := sm_gsup_z sgz78
theorem slz41 : ∀ c j : Nat, lz41 c j = 0 := sm_lz slz40
theorem sgz80 : sm_gsup gz80 := sm_gsup_z sgz79
theorem slz42 : ∀ c j : Nat, lz42 c j = 0 := sm_lz slz41
theorem sgz81 : sm_gsup gz81 := sm_gsup_z sgz80
theorem slz43 : ∀ c j : Nat, lz43 c j = 0 := sm_lz slz42
theorem sgz82 : sm_gsup gz82 := sm_gsup_z sgz81
theorem slz44 : ∀ c j : Nat, lz44 c j = 0 := sm_lz slz43
theorem sgz83 : sm_gsup gz83 := sm_gsup_z sgz82
theorem slz45 : ∀ c j : Nat, lz45 c j = 0 := sm_lz slz44
theorem sgz84 : sm_gsup gz84 := sm_gsup_z sgz83
theorem slz46 : ∀ c j : Nat, lz46 c j = 0 := sm_lz slz45
theorem sgz85 : sm_gsup gz85 := sm_gsup_z sgz84
theorem slz47 : ∀ c j : Nat, lz47 c j = 0 := sm_lz slz46
theorem sgz86 : sm_gsup gz86 := sm_gsup_z sgz85
theorem slz48 : ∀ c j : Nat, lz48 c j = 0 := sm_lz slz47
theorem sgz87 : sm_gsup gz87 := sm_gsup_z sgz86
theorem slz49 : ∀ c j : Nat, lz49 c j = 0 := sm_lz slz48
theorem sgz88 : sm_gsup gz88 := sm_gsup_z sgz87
theorem slz50 : ∀ c j : Nat, lz50 c j = 0 := sm_lz slz49
theorem sgz89 : sm_gsup gz89 := sm_gsup_u (by decide) (by decide) (sgz88)
theorem sgz90 : sm_gsup gz90 := sm_gsup_z sgz89
theorem slz51 : ∀ c j : Nat, lz51 c j = 0 := sm_lz slz50
theorem sgz91 : sm_gsup gz91 := sm_gsup_z sgz90
theorem slz52 : ∀ c j : Nat, lz52 c j = 0 := sm_lz slz51
theorem sgz92 : sm_gsup gz92 := sm_gsup_u (by decide) (by decide) (sm_gsup_u (by decide) (by decide) (sgz91))
theorem sgz93 : sm_gsup gz93 := sm_gsup_z sgz92
theorem slz53 : ∀ c j : Nat, lz53 c j = 0 := sm_lz slz52
theorem sgz94 : sm_gsup gz94 := sm_gsup_z sgz93
theorem slz54 : ∀ c j : Nat, lz54 c j = 0 := sm_lz slz53
theorem sgz95 : sm_gsup gz95 := sm_gsup_z sgz94
theorem slz55 : ∀ c j : Nat, lz55 c j = 0 := sm_lz slz54
theorem sgz96 : sm_gsup gz96 := sm_gsup_z sgz95
theorem slz56 : ∀ c j : Nat, lz56 c j = 0 := sm_lz slz55
theorem sgz97 : sm_gsup gz97 := sm_gsup_z sgz96
theorem slz57 : ∀ c j : Nat, lz57 c j = 0 := sm_lz slz56
theorem sgz98 : sm_gsup gz98 := sm_gsup_z sgz97
theorem slz58 : ∀ c j : Nat, lz58 c j = 0 := sm_lz slz57
theorem sgz99 : sm_gsup gz99 := sm_gsup_z sgz98
theorem slz59 : ∀ c j : Nat, lz59 c j = 0 := sm_lz slz58
theorem sgz100 : sm_gsup gz100 := sm_gsup_u (by decide) (by decide) (sm_gsup_u (by decide) (by decide) (sm_gsup_u (by decide) (by decide) (sgz99)))
theorem sgz101 : sm_gsup gz101 := sm_gsup_z sgz100
theorem slz60 : ∀ c j : Nat, lz60 c j = 0 := sm_lz slz59
theorem sgz102 : sm_gsup gz102 := sm_gsup_z sgz101
theorem slz61 : ∀ c j : Nat, lz61 c j = 0 := sm_lz slz60
theorem sgz103 : sm_gsup gz103 := sm_gsup_z sgz102
theorem slz62 : ∀ c j : Nat, lz62 c j = 0 := sm_lz slz61
theorem sgz104 : sm_gsup gz104 := sm_gsup_z sgz103
theorem slz63 : ∀ c j : Nat, lz63 c j = 0 := sm_lz slz62
theorem sgz105 : sm_gsup gz105 := sm_gsup_u (by decide) (by decide) (sm_gsup_u (by decide) (by decide) (sm_gsup_u (by decide) (by decide) (sgz104)))
theorem sgz106 : sm_gsup gz106 := sm_gsup_z sgz105
theorem slz64 : ∀ c j : Nat, lz64 c j = 0 := sm_lz slz63
theorem sgz107 : sm_gsup gz107 := sm_gsup_z sgz106
theorem slz65 : ∀ c j : Nat, lz65 c j = 0 := sm_lz slz64
theorem sgz108 : sm_gsup gz108 := sm_gsup_z sgz107
theorem slz66 : ∀ c j : Nat, lz66 c j = 0 := sm_lz slz65
theorem sgz109 : sm_gsup gz109 := sm_gsup_z sgz108
theorem slz67 : ∀ c j : Nat, lz67 c j = 0 := sm_lz slz66
theorem sgz110 : sm_gsup gz110 := sm_gsup_u (by decide) (by decide) (sm_gsup_u (by decide) (by decide) (sgz109))
theorem sgz111 : sm_gsup gz111 := sm_gsup_z sgz110
theorem slz68 : ∀ c j : Nat, lz68 c j = 0 := sm_lz slz67
theorem sgz112 : sm_gsup gz112 := sm_gsup_u (by decide) (by decide) (sgz111)
theorem sgz113 : sm_gsup gz113 := sm_gsup_u (by decide) (by decide) (sgz112)
theorem sgz114 : sm_gsup gz114 := sm_gsup_u (by decide) (by decide) (sgz113)
theorem sgz115 : sm_gsup gz115 := sm_gsup_u (by decide) (by decide) (sgz114)
theorem sgz116 : sm_gsup gz116 := sm_gsup_u (by decide) (by decide) (sgz115)
theorem sgz117 : sm_gsup gz117 := sm_gsup_u (by decide) (by decide) (sgz116)
theorem sgz118 : sm_gsup gz118 := sm_gsup_u (by decide) (by decide) (sgz117)
theorem sgz119 : sm_gsup gz119 := sm_gsup_u (by decide) (by decide) (sgz118)
theorem sgz120 : sm_gsup gz120 := sm_gsup_u (by decide) (by decide) (sgz119)
theorem sgz121 : sm_gsup gz121 := sm_gsup_u (by decide) (by decide) (sgz120)
theorem sgz122 : sm_gsup gz122 := sm_gsup_u (by decide) (by decide) (sgz121)
theorem sgz123 : sm_gsup gz123 := sm_gsup_u (by decide) (by decide) (sgz122)
theorem sgz124 : sm_gsup gz124 := sm_gsup_u (by decide) (by decide) (sgz123)
theorem sgz125 : sm_gsup gz125 := sm_gsup_u (by decide) (by decide) (sgz124)
theorem sgz126 : sm_gsup gz126 := sm_gsup_z sgz125
theorem slz69 : ∀ c j : Nat, lz69 c j = 0 := sm_lz slz68
theorem sgz127 : sm_gsup gz127 := sm_gsup_u (by decide) (by decide) (sm_gsup_u (by decide) (by decide) (sgz126))
theorem sgz128 : sm_gsup gz128 := sm_gsup_z sgz127
theorem slz70 : ∀ c j : Nat, lz70 c j = 0 := sm_lz slz69
theorem sgz129 : sm_gsup gz129 := sm_gsup_u (by decide) (by decide) (sgz128)
theorem sgz130 : sm_gsup gz130 := sm_gsup_u (by decide) (by decide) (sgz129)
theorem sgz131 : sm_gsup gz131 := sm_gsup_u (by decide) (by decide) (sgz130)
theorem sgz132 : sm_gsup gz132 := sm_gsup_u (by decide) (by decide) (sgz131)
theorem sgz133 : sm_gsup gz133 := sm_gsup_u (by decide) (by decide) (sgz132)
theorem sgz134 : sm_gsup gz134 := sm_gsup_u (by decide) (by decide) (sgz133)
theorem sgz135 : sm_gsup gz135 := sm_gsup_u (by decide) (by decide) (sgz134)
theorem sgz136 : sm_gsup gz136 := sm_gsup_u (by decide) (by decide) (sgz135)
theorem sgz137 : sm_gsup gz137 := sm_gsup_u (by decide) (by decide) (sgz136)
theorem sgz138 : sm_gsup gz138 := sm_gsup_u (by decide) (by decide) (sgz137)
theorem sgz139 : sm_gsup gz139 := sm_gsup_u (by decide) (by decide) (sgz138)
theorem sgz140 : sm_gsup gz140 := sm_gsup_u (by decide) (by decide) (sgz139)
theorem sgz141 : sm_gsup gz141 := sm_gsup_u (by decide) (by decide) (sgz140)
theorem sgz142 : sm_gsup gz142 := sm_gsup_u (by decide) (by decide) (sgz141)
theorem sgz143 : sm_gsup gz143 := sm_gsup_z sgz142
theorem slz71 : ∀ c j : Nat, lz71 c j = 0 := sm_lz slz70
theorem sgz144 : sm_gsup gz144 := sm_gsup_u (by decide) (by decide) (sm_gsup_u (by decide) (by decide) (sgz143))
theorem sgz145 : sm_gsup gz145 := sm_gsup_z sgz144
theorem slz72 : ∀ c j : Nat, lz72 c j = 0 := sm_lz slz71
theorem sgz146 : sm_gsup gz146 := sm_gsup_u (by decide) (by decide) (sgz145)
theorem sgz147 : sm_gsup gz147 := sm_gsup_u (by decide) (by decide) (sgz146)
theorem sgz148 : sm_gsup gz148 := sm_gsup_u (by decide) (by decide) (sgz147)
theorem sgz149 : sm_gsup gz149 := sm_gsup_u (by decide) (by decide) (sgz148)
theorem sgz150 : sm_gsup gz150 := sm_gsup_u (by decide) (by decide) (sgz149)
theorem sgz151 : sm_gsup gz151 := sm_gsup_u (by decide) (by decide) (sgz150)
theorem sgz152 : sm_gsup gz152 := sm_gsup_u (by decide) (by decide) (sgz151)
theorem sgz153 : sm_gsup gz153 := sm_gsup_u (by decide) (by decide) (sgz152)
theorem sgz154 : sm_gsup gz154 := sm_gsup_u (by decide) (by decide) (sgz153)
theorem sgz155 : sm_gsup gz155 := sm_gsup_u (by decide) (by decide) (sgz154)
theorem sgz156 : sm_gsup gz156 := sm_gsup_u (by decide) (by decide) (sgz155)
theorem sgz157 : sm_gsup gz157 := sm_gsup_u (by decide) (by decide) (sgz156)
theorem sgz158 : sm_gsup gz158 := sm_gsup_u (by decide) (by decide) (sgz157)
theorem sgz159 : sm_gsup gz159 := sm_gsup_u (by decide) (by decide) (sgz158)
theorem sgz160 : sm_gsup gz160 := sm_gsup_z sgz159
theorem slz73 : ∀ c j : Nat, lz73 c j = 0 := sm_lz slz72
theorem sgz161 : sm_gsup gz161 := sm_gsup_z sgz160
theorem slz74 : ∀ c j : Nat, lz74 c j = 0 := sm_lz slz73
theorem sgz162 : sm_gsup gz162 := sm_gsup_z sgz161
theorem slz75 : ∀ c j : Nat, lz75 c j = 0 := sm_lz slz74
theorem sgz163 : sm_gsup gz163 := sm_gsup_z sgz162
theorem slz76 : ∀ c j : Nat, lz76 c j = 0 := sm_lz slz75
theorem sgz164 : sm_gsup gz164 := sm_gsup_z sgz163
theorem slz77 : ∀ c j : Nat, lz77 c j = 0 := sm_lz slz76
theorem sgz165 : sm_gsup gz165 := sm_gsup_z sgz164
theorem slz78 : ∀ c j : Nat, lz78 c j = 0 := sm_lz slz77
theorem sgz166 : sm_gsup gz166 := sm_gsup_z sgz165
theorem slz79 : ∀ c j : Nat, lz79 c j = 0 := sm_lz slz78
theorem sgz167 : sm_gsup gz167 := sm_gsup_z sgz166
theorem slz80 : ∀ c j : Nat, lz80 c j = 0 := sm_lz slz79
theorem sgz168 : sm_gsup gz168 := sm_gsup_z sgz167
theorem slz81 : ∀ c j : Nat, lz81 c j = 0 := sm_lz slz80
theorem sgz169 : sm_gsup gz169 := sm_gsup_z sgz168
theorem slz82 : ∀ c j : Nat, lz82 c j = 0 := sm_lz slz81
theorem sgz170 : sm_gsup gz170 := sm_gsup_z sgz169
theorem slz83 : ∀ c j : Nat, lz83 c j = 0 := sm_lz slz82
theorem sgz171 : sm_gsup gz171 := sm_gsup_u (by decide) (by decide) (sm_gsup_u (by decide) (by decide) (sgz170))
theorem sgz172 : sm_gsup gz172 := sm_gsup_z sgz171
theorem slz84 : ∀ c j : Nat, lz84 c j = 0 := sm_lz slz83
theorem sgz173 : sm_gsup gz173 := sm_gsup_z sgz172
theorem slz85 : ∀ c j : Nat, lz85 c j = 0 := sm_lz slz84
theorem sgz174 : sm_gsup gz174 := sm_gsup_z sgz173
theorem slz86 : ∀ c j : Nat, lz86 c j = 0 := sm_lz slz85
theorem sgz175 : sm_gsup gz175 := sm_gsup_z sgz174
theorem slz87 : ∀ c j : Nat, lz87 c j = 0 := sm_lz slz86
theorem sgz176 : sm_gsup gz176 := sm_gsup_z sgz175
theorem slz88 : ∀ c j : Nat, lz88 c j = 0 := sm_lz slz87
theorem sgz177 : sm_gsup gz177 := sm_gsup_z sgz176
theorem slz89 : ∀ c j : Nat, lz89 c j = 0 := sm_lz slz88
theorem sgz178 : sm_gsup gz178 := sm_gsup_z sgz177
theorem slz90 : ∀ c j : Nat, lz90 c j = 0 := sm_lz slz89
theorem sgz179 : sm_gsup gz179 := sm_gsup_u (by decide) (by decide) (sm_gsup_u (by decide) (by decide) (sgz178))
theorem sgz180 : sm_gsup gz180 := sm_gsup_z sgz179
theorem slz91 : ∀ c j : Nat, lz91 c j = 0 := sm_lz slz90
theorem sgz181 : sm_gsup gz181 := sm_gsup_z sgz180
theorem slz92 : ∀ c j : Nat, lz92 c j = 0 := sm_lz slz91
theorem sgz182 : sm_gsup gz182 := sm_gsup_z sgz181
theorem slz93 : ∀ c j : Nat, lz93 c j = 0 := sm_lz slz92
theorem sgz183 : sm_gsup gz183 := sm_gsup_z sgz182
theorem slz94 : ∀ c j : Nat, lz94 c j = 0 := sm_lz slz93
theorem sgz184 : sm_gsup gz184 := sm_gsup_z sgz183
theorem slz95 : ∀ c j : Nat, lz95 c j = 0 := sm_lz slz94
theorem sgz185 : sm_gsup gz185 := sm_gsup_z sgz184
theorem slz96 : ∀ c j : Nat, lz96 c j = 0 := sm_lz slz95
theorem sgz186 : sm_gsup gz186 := sm_gsup_z sgz185
theorem slz97 : ∀ c j : Nat, lz97 c j = 0 := sm_lz slz96
theorem sgz187 : sm_gsup gz187 := sm_gsup_z sgz186
theorem slz98 : ∀ c j : Nat, lz98 c j = 0 := sm_lz slz97
theorem sgz188 : sm_gsup gz188 := sm_gsup_z sgz187
theorem slz99 : ∀ c j : Nat, lz99 c j = 0 := sm_lz slz98
theorem sgz189 : sm_gsup gz189 := sm_gsup_z sgz188
theorem slz100 : ∀ c j : Nat, lz100 c j = 0 := sm_lz slz99
theorem sgz190 : sm_gsup gz190 := sm_gsup_z sgz189
theorem slz101 : ∀ c j : Nat, lz101 c j = 0 := sm_lz slz100
theorem sgz191 : sm_gsup gz191 := sm_gsup_z sgz190
theorem slz102 : ∀ c j : Nat, lz102 c j = 0 := sm_lz slz101
theorem sgz192 : sm_gsup gz192 := sm_gsup_z sgz191
theorem slz103 : ∀ c j : Nat, lz103 c j = 0 := sm_lz slz102
theorem sgz193 : sm_gsup gz193 := sm_gsup_z sgz192
theorem slz104 : ∀ c j : Nat, lz104 c j = 0 := sm_lz slz103
theorem sgz194 : sm_gsup gz194 := sm_gsup_z sgz193
theorem slz105 : ∀ c j : Nat, lz105 c j = 0 := sm_lz slz104
theorem sgz195 : sm_gsup gz195 := sm_gsup_z sgz194
theorem slz106 : ∀ c j : Nat, lz106 c j = 0 := sm_lz slz105
theorem sgz196 : sm_gsup gz196 := sm_gsup_z sgz195
theorem slz107 : ∀ c j : Nat, lz107 c j = 0 := sm_lz slz106
theorem sgz197 : sm_gsup gz197 := sm_gsup_z sgz196
theorem slz108 : ∀ c j : Nat, lz108 c j = 0 := sm_lz slz107
theorem sm_m0_eq : sm_m0 = sm_n0 := by
  have h : (List.range 108).all (fun c => (List.range 64).all (fun j => decide (gz197 c j = sm_g0 c j))) = true := by decide +kernel
  have e1 : gz197 = sm_g0 := by
    funext c j
    by_cases hc : c < 108
    · by_cases hj : j < 64
      · exact of_decide_eq_true (List.all_eq_true.mp (List.all_eq_true.mp h c (List.mem_range.mpr hc)) j (List.mem_range.mpr hj))
      · rw [sgz197 c j (Or.inr (by omega)), sm_g0_sup c j (Or.inr (by omega))]
    · rw [sgz197 c j (Or.inl (by omega)), sm_g0_sup c j (Or.inl (by omega))]
  have e2 : lz108 = fun _ _ => 0 := by
    funext c j
    exact slz108 c j
  show (gz197, lz108) = (sm_g0, fun _ _ => (0 : Int64))
  rw [e1, e2]
/-! one call of each, compared -/
def sm_q2 (A : Option (Int32 × sm_S)) (B : sm_S → Option (Int32 × sm_S)) : Bool := match A with
  | some r => match B r.2 with
    | some q => decide (r.1 = q.1)
    | none => false
  | none => false
def sm_q1 (A : Option Int32) (B : Option (Int32 × sm_S)) : Bool := match A with
  | some r => match B with
    | some q => decide (r = q.1)
    | none => false
  | none => false
theorem sm_q2_ok {A : Option (Int32 × sm_S)} {B : sm_S → Option (Int32 × sm_S)} (h : sm_q2 A B = true) : ∃ r q, A = some r ∧ B r.2 = some q ∧ r.1 = q.1 := by
  unfold sm_q2 at h
  cases hA : A with
  | none => rw [hA] at h; cases h
  | some r =>
    rw [hA] at h
    cases hB : B r.2 with
    | none => simp only [hB] at h; cases h
    | some q =>
      simp only [hB] at h
      exact ⟨r, q, rfl, hB, of_decide_eq_true h⟩
theorem sm_q1_ok {A : Option Int32} {B : Option (Int32 × sm_S)} (h : sm_q1 A B = true) : ∃ r q, A = some r ∧ B = some q ∧ r = q.1 := by
  unfold sm_q1 at h
  cases hA : A with
  | none => rw [hA] at h; cases h
  | some r =>
    rw [hA] at h
    cases hB : B with
    | none => simp only [hB] at h; cases h
    | some q =>
      simp only [hB] at h
      exact ⟨r, q, rfl, rfl, of_decide_eq_true h⟩

