/-! A HEDGE'S LINE, read by both -/
/-- the reference's line from the wind on, and from the worth on -/
def hR3 (i v : Int32) (R : sm_S) : Option (Int32 × sm_S) :=
  if sm_ix i 14 then (if sm_ix i 14 then (if 0 ≤ ((sm_w1 R 82 i.toNatClampNeg v).1 82 i.toNatClampNeg) then ((fX12_takes (103 : Int32) (sm_w1 R 82 i.toNatClampNeg v)).bind fun r33 => if r33.1 = 0 then (if sm_ix i 14 then (some ((1 : Int32), (sm_w1 (sm_w1 (sm_w1 r33.2 72 26 ((R.1 72 26) ||| (0 : Int32))) 83 i.toNatClampNeg (-1 : Int32)) 72 25 ((r33.2.1 72 25) + (1 : Int32))))) else none) else (if sm_ix i 14 then (some ((1 : Int32), (sm_w1 (sm_w1 (sm_w1 r33.2 72 26 ((R.1 72 26) ||| ((1 : Int32) <<< (i &&& 31)))) 83 i.toNatClampNeg (-1 : Int32)) 72 25 ((r33.2.1 72 25) + (1 : Int32))))) else none)) else (some ((0 : Int32), (sm_w1 R 82 i.toNatClampNeg v)))) else none) else none
def hR2 (i v : Int32) (R : sm_S) : Option (Int32 × sm_S) :=
  if sm_ix i 14 then (if sm_ix i 14 then (if 0 ≤ ((sm_w1 R 81 i.toNatClampNeg v).1 81 i.toNatClampNeg) then ((fX12_takes (126 : Int32) (sm_w1 R 81 i.toNatClampNeg v)).bind fun r29 => if r29.1 = 0 then hR3 i (0 : Int32) r29.2 else ((fX12_digit (9 : Int32) r29.2).bind fun r37 => hR3 i r37.1 r37.2)) else (some ((0 : Int32), (sm_w1 R 81 i.toNatClampNeg v)))) else none) else none
def hR1 (i : Int32) (R : sm_S) : Option (Int32 × sm_S) :=
  (fX12_takes (119 : Int32) R).bind fun r25 => if r25.1 = 0 then hR2 i (1 : Int32) r25.2 else ((fX12_digit (9 : Int32) r25.2).bind fun r45 => hR2 i r45.1 r45.2)
theorem hR_eq (m : sm_S) : fX12_readsHedge m = (if (m.1 72 25) = (14 : Int32) then (some ((0 : Int32), m)) else ((fX12_cornerBut (-1 : Int32) m).bind fun r2 => if sm_ix (m.1 72 25) 14 then (if sm_ix (m.1 72 25) 14 then (if 0 ≤ ((sm_w1 r2.2 76 (m.1 72 25).toNatClampNeg r2.1).1 76 (m.1 72 25).toNatClampNeg) then (if sm_ix (m.1 72 25) 14 then ((fX12_cornerBut ((sm_w1 r2.2 76 (m.1 72 25).toNatClampNeg r2.1).1 76 (m.1 72 25).toNatClampNeg) (sm_w1 r2.2 76 (m.1 72 25).toNatClampNeg r2.1)).bind fun r7 => if sm_ix (m.1 72 25) 14 then (if sm_ix (m.1 72 25) 14 then (if 0 ≤ ((sm_w1 r7.2 77 (m.1 72 25).toNatClampNeg r7.1).1 77 (m.1 72 25).toNatClampNeg) then ((fX12_number (1 : Int32) (20 : Int32) (sm_w1 r7.2 77 (m.1 72 25).toNatClampNeg r7.1)).bind fun r11 => if sm_ix (m.1 72 25) 14 then (if sm_ix (m.1 72 25) 14 then (if ((sm_w1 r11.2 78 (m.1 72 25).toNatClampNeg r11.1).1 78 (m.1 72 25).toNatClampNeg) < 0 then (some ((0 : Int32), (sm_w1 r11.2 78 (m.1 72 25).toNatClampNeg r11.1))) else ((fX12_takes (58 : Int32) (sm_w1 r11.2 78 (m.1 72 25).toNatClampNeg r11.1)).bind fun r15 => if r15.1 = 0 then (some ((0 : Int32), r15.2)) else ((fX12_digit (5 : Int32) r15.2).bind fun r17 => if sm_ix (m.1 72 25) 14 then (if sm_ix (m.1 72 25) 14 then (if 0 ≤ ((sm_w1 r17.2 79 (m.1 72 25).toNatClampNeg r17.1).1 79 (m.1 72 25).toNatClampNeg) then ((fX12_digit (5 : Int32) (sm_w1 r17.2 79 (m.1 72 25).toNatClampNeg r17.1)).bind fun r21 => if sm_ix (m.1 72 25) 14 then (if sm_ix (m.1 72 25) 14 then (if 0 ≤ ((sm_w1 r21.2 80 (m.1 72 25).toNatClampNeg r21.1).1 80 (m.1 72 25).toNatClampNeg) then (hR1 (m.1 72 25) (sm_w1 r21.2 80 (m.1 72 25).toNatClampNeg r21.1)) else (some ((0 : Int32), (sm_w1 r21.2 80 (m.1 72 25).toNatClampNeg r21.1)))) else none) else none) else (some ((0 : Int32), (sm_w1 r17.2 79 (m.1 72 25).toNatClampNeg r17.1)))) else none) else none))) else none) else none) else (some ((0 : Int32), (sm_w1 r7.2 77 (m.1 72 25).toNatClampNeg r7.1)))) else none) else none) else none) else (some ((0 : Int32), (sm_w1 r2.2 76 (m.1 72 25).toNatClampNeg r2.1)))) else none) else none)) := rfl
theorem t_mark {γ δ : Type} {Q : γ → δ → Prop} {k d : Int32} {m s : sm_S} {K : Int32 × sm_S → Option γ} {K' : Int32 → sm_S → Option δ} (hk : 58 ≤ k.toInt ∧ k.toInt ≤ 126) (hd : 0 ≤ d.toInt ∧ d.toInt ≤ 9) (hT : TS m s) (hI : zI m) (hJ : zI s) (h : ∀ (v : Int32) (a b : sm_S), PQ m s (v, a) (v, b) → -1 ≤ v.toInt ∧ v.toInt ≤ 9 → TR Q (K (v, a)) (K' v b)) : TR Q ((fX8_marked k d m).bind K) ((fX12_takes k s).bind fun r => if r.1 = 0 then K' d r.2 else (fX12_digit (9 : Int32) r.2).bind fun q => K' q.1 q.2) := by
  have l0 := L0
  have l9 := L9
  unfold fX8_marked
  rw [Option.bind_assoc]
  refine t_bd (t_skip hk hT hI hJ) (fun a b ha => ?_)
  obtain ⟨hq, hz⟩ := ha
  obtain ⟨e, T1, I1, J1, F1, G1, q1⟩ := hq
  have e' : a.1.toInt = b.1.toInt := congrArg Int32.toInt e
  by_cases z : a.1 = 0
  · have z2 : b.1 = 0 := by rw [← e]; exact z
    rw [if_pos z, if_pos z2]
    exact h d a.2 b.2 ⟨rfl, T1, I1, J1, F1, G1, q1⟩ (by omega)
  · have z2 : b.1 ≠ 0 := by rw [← e]; exact z
    rw [if_neg z, if_neg z2]
    rw [Option.bind_assoc]
    refine t_bd (t_digit (by omega) T1 I1 J1) (fun c f hc => ?_)
    obtain ⟨⟨e2, T2, I2, J2, F2, G2, q2⟩, p1, p2, -, -⟩ := hc
    have g := h c.1 c.2 f.2 ⟨rfl, T2, I2, J2, Fr.trans F1 F2 rfl, Fr.trans G1 G2 rfl, show (m.1 1 2).toInt ≤ (c.2.1 1 2).toInt by omega⟩ (by omega)
    rw [e2] at g
    show TR Q (K (c.1, c.2)) (K' f.1 f.2)
    rw [e2]; exact g
theorem PS.hedge {S R A B : sm_S} {k : Nat} {g : Int32} {G : Bool} (h : PS S R) (hk : (k : Int) = (S.1 1 5).toInt) (hk2 : k < 14) (a14 : A.1 1 4 = S.1 1 4) (a15 : (A.1 1 5).toInt = (S.1 1 5).toInt + 1) (b24 : B.1 72 24 = R.1 72 24) (b25 : (B.1 72 25).toInt = (R.1 72 25).toInt + 1) (b6 : B.1 72 6 = R.1 72 6) (b14 : B.1 72 14 = R.1 72 14) (b26 : B.1 72 26 = (R.1 72 26 ||| g)) (hg : ∀ i : Nat, i < 32 → bt g i = (decide (i = k) && G)) (le : (R.1 72 6).toInt ≤ (R.1 72 25).toInt) (ac : ∀ j : Nat, A.1 4 j = S.1 4 j ∧ A.1 5 j = S.1 5 j ∧ B.1 74 j = R.1 74 j ∧ B.1 75 j = R.1 75 j) (ah : ∀ c j : Nat, 6 ≤ c → c ≤ 13 → j ≠ k → A.1 c j = S.1 c j) (bh : ∀ c j : Nat, 76 ≤ c → c ≤ 82 → j ≠ k → B.1 c j = R.1 c j) (ev : A.1 6 k = B.1 76 k ∧ A.1 7 k = B.1 77 k ∧ A.1 8 k = B.1 78 k ∧ A.1 9 k = B.1 79 k ∧ A.1 10 k = B.1 80 k ∧ A.1 11 k = B.1 81 k ∧ A.1 12 k = B.1 82 k) (eg : A.1 13 k = (if G then (1 : Int32) else 0)) : PS A B := by
  obtain ⟨h1, h2, ⟨h3, h4⟩, h5, h6⟩ := h
  have e2 : (S.1 1 5).toInt = (R.1 72 25).toInt := congrArg Int32.toInt h2
  refine ⟨by rw [a14, b24]; exact h1, Int32.toInt_inj.mp (by omega), ⟨fun j hj => ?_, fun j hj => ?_⟩, fun i hi hb => ?_, fun i hi hb => ?_⟩
  · rw [a14] at hj
    obtain ⟨q1, q2, q3, q4⟩ := ac j
    rw [q1, q2, q3, q4]; exact h3 j hj
  · by_cases q : j = k
    · subst q
      obtain ⟨v1, v2, v3, v4, v5, v6, v7⟩ := ev
      refine ⟨v1, v2, v3, v4, v5, v6, v7, ?_⟩
      have hb : bt (B.1 72 14 ||| B.1 72 26) j = G := by
        rw [b14, b26, b_or, b_or, hg j (by omega)]
        have n14 : bt (R.1 72 14) j = false := by
          cases hq : bt (R.1 72 14) j with
          | false => rfl
          | true => have := h6 j (by omega) hq; omega
        have n26 : bt (R.1 72 26) j = false := by
          cases hq : bt (R.1 72 26) j with
          | false => rfl
          | true => have := (h5 j (by omega) hq).2; omega
        rw [n14, n26]
        simp
      rw [hb]; exact eg
    · have hb : bt (B.1 72 14 ||| B.1 72 26) j = bt (R.1 72 14 ||| R.1 72 26) j := by
        rw [b14, b26, b_or, b_or, b_or]
        by_cases hj32 : j < 32
        · rw [hg j hj32, decide_eq_false q]; simp
        · rw [b_big (x := g) (by omega), Bool.or_false]
      rw [hb, ah 6 j (by decide) (by decide) q, ah 7 j (by decide) (by decide) q, ah 8 j (by decide) (by decide) q, ah 9 j (by decide) (by decide) q, ah 10 j (by decide) (by decide) q, ah 11 j (by decide) (by decide) q, ah 12 j (by decide) (by decide) q, ah 13 j (by decide) (by decide) q, bh 76 j (by decide) (by decide) q, bh 77 j (by decide) (by decide) q, bh 78 j (by decide) (by decide) q, bh 79 j (by decide) (by decide) q, bh 80 j (by decide) (by decide) q, bh 81 j (by decide) (by decide) q, bh 82 j (by decide) (by decide) q]
      exact h4 j (by omega)
  · rw [b26, b_or, hg i hi] at hb
    rw [b6]
    cases hq : bt (R.1 72 26) i with
    | true => have := h5 i hi hq; omega
    | false =>
      rw [hq, Bool.false_or] at hb
      have := of_decide_eq_true (Bool.and_eq_true_iff.mp hb).1
      omega
  · rw [b14] at hb; rw [b6]; exact h6 i hi hb
theorem t_bdv {γ δ : Type} {P : Int32 × sm_S → Int32 × sm_S → Prop} {Q : γ → δ → Prop} {o o' : Option (Int32 × sm_S)} {k : Int32 × sm_S → Option γ} {k' : Int32 × sm_S → Option δ} (h : TR P o o') (hv : ∀ a b, P a b → a.1 = b.1) (h2 : ∀ (v : Int32) (a b : sm_S), P (v, a) (v, b) → TR Q (k (v, a)) (k' (v, b))) : TR Q (o.bind k) (o'.bind k') := by
  obtain ⟨⟨v, a⟩, ⟨w, b⟩, rfl, rfl, h⟩ := h
  obtain rfl : v = w := hv _ _ h
  exact h2 v a b h
theorem inW1 {x y a k : Nat} (h : a ≠ x) : inW [(x, y)] a k = false := by
  cases hi : inW [(x, y)] a k with
  | false => rfl
  | true =>
    obtain ⟨p, hp, e⟩ := List.any_eq_true.mp hi
    rw [List.mem_singleton.mp hp] at e
    exact absurd (Nat.eq_of_beq_eq_true (Bool.and_eq_true_iff.mp e).1).symm h
theorem keyN {L : List (Nat × Int32)} {c : Nat} (h : L.all (fun p => !(Nat.beq p.1 c)) = true) : ∀ p, p ∈ L → p.1 ≠ c := by
  intro p hp e
  have := List.all_eq_true.mp h p hp
  rw [e, Nat.beq_refl] at this
  cases this
def wR : List (Nat × Nat) := [(72, 22), (76, 999), (77, 999), (78, 999), (79, 999), (80, 999), (81, 999), (82, 999)]
/-- under way in a hedge's line: what the reference has laid at its place already -/
def MD (L : List (Nat × Int32)) (z : Int) (m s A B : sm_S) : Prop := TS A B ∧ PS A B ∧ zI A ∧ zI B ∧ Fr [(1, 2)] m A ∧ Fr wR s B ∧ z ≤ (A.1 1 2).toInt ∧ ∀ p, p ∈ L → B.1 p.1 (s.1 72 25).toNatClampNeg = p.2
theorem MD.prim {L : List (Nat × Int32)} {z : Int} {m s A B : sm_S} {v : Int32} {a b : sm_S} (h : MD L z m s A B) (hL : L.all (fun p => !(Nat.beq p.1 72)) = true) (q : PQ A B (v, a) (v, b)) : MD L z m s a b := by
  obtain ⟨-, P, -, -, F, G, l, V⟩ := h
  obtain ⟨-, T', I', J', F', G', l'⟩ := q
  have l2 : (A.1 1 2).toInt ≤ (a.1 1 2).toInt := l'
  refine ⟨T', PS.fr P F' G', I', J', Fr.trans F F' rfl, Fr.trans G G' rfl, by omega, fun p hp => ?_⟩
  rw [← V p hp]
  exact G' p.1 _ (inW1 (keyN hL p hp))
theorem MD.w {L : List (Nat × Int32)} {z : Int} {m s A B : sm_S} {c : Nat} {v : Int32} (h : MD L z m s A B) (h0 : 0 ≤ (s.1 72 25).toInt) (hc : 76 ≤ c ∧ c ≤ 82) (hv : (tB c (s.1 72 25).toNatClampNeg).1 ≤ v.toInt ∧ v.toInt ≤ (tB c (s.1 72 25).toNatClampNeg).2) (hL : L.all (fun p => !(Nat.beq p.1 c)) = true) (hw : inW wR c (s.1 72 25).toNatClampNeg = true) : MD ((c, v) :: L) z m s A (sm_w1 B c (s.1 72 25).toNatClampNeg v) := by
  obtain ⟨T, P, I, J, F, G, l, V⟩ := h
  have et := a_tn h0
  have e25 : B.1 72 25 = s.1 72 25 := G 72 25 rfl
  have e25' : (B.1 72 25).toInt = (s.1 72 25).toInt := congrArg Int32.toInt e25
  have hk : (B.1 72 25).toInt ≤ (((s.1 72 25).toNatClampNeg : Nat) : Int) := by omega
  have hz : zI (sm_w1 B c (s.1 72 25).toNatClampNeg v) := by
    have hcs : c = 76 ∨ c = 77 ∨ c = 78 ∨ c = 79 ∨ c = 80 ∨ c = 81 ∨ c = 82 := by omega
    rcases hcs with rfl | rfl | rfl | rfl | rfl | rfl | rfl
    · exact zI.w76 J hv (Or.inr (by omega)) h0
    · exact zI.w77 J hv (Or.inr (by omega)) h0
    · exact zI.w78 J hv (Or.inr (by omega)) h0
    · exact zI.w J rfl hv
    · exact zI.w J rfl hv
    · exact zI.w J rfl hv
    · exact zI.w82 J hv (Or.inr (by omega)) h0
  refine ⟨T.wr (by omega), P.wr hc hk, I, hz, F, Fr.w G hw, l, fun p hp => ?_⟩
  rcases List.mem_cons.mp hp with rfl | hp
  · exact r_hit
  · rw [r_cell (keyN hL p hp)]; exact V p hp
theorem MD.fail {L : List (Nat × Int32)} {z : Int} {m s A B : sm_S} (h : MD L z m s A B) (hz : (m.1 1 2).toInt ≤ z) : LQ0 m s ((0 : Int32), A) ((0 : Int32), B) := by
  obtain ⟨T, P, I, J, F, G, l, V⟩ := h
  refine ⟨rfl, T, P, show (m.1 1 2).toInt ≤ (A.1 1 2).toInt by omega, fun q => absurd (show (0 : Int32).toInt = 1 from q) (by decide), ?_, ?_⟩
  · show (m.1 1 4).toInt ≤ (A.1 1 4).toInt
    rw [F 1 4 rfl]; exact Int.le_refl _
  · show (m.1 1 5).toInt ≤ (A.1 1 5).toInt
    rw [F 1 5 rfl]; exact Int.le_refl _
theorem TS.cg {A B A' B' : sm_S} (h : TS A B) (e1 : A'.1 1 2 = A.1 1 2) (e2 : A'.1 1 3 = A.1 1 3) (e3 : ∀ j, A'.1 2 j = A.1 2 j) (e4 : B'.1 72 22 = B.1 72 22) (e5 : B'.1 72 23 = B.1 72 23) (e6 : ∀ j, B'.1 84 j = B.1 84 j) : TS A' B' := by
  obtain ⟨h1, h2, h3, h4⟩ := h
  refine ⟨by rw [e1, e4]; exact h1, by rw [e2, e5]; exact h2, by rw [e1, e2]; exact h3, fun j hj => ?_⟩
  rw [e2] at hj
  rw [e3, e6]; exact h4 j hj
/-- the class's writes of a hedge's line -/
def W7 (A : sm_S) (k : Nat) (v1 v2 v3 v5 v6 v7 v8 : Int32) : sm_S := sm_w1 (sm_w1 (sm_w1 (sm_w1 (sm_w1 (sm_w1 (sm_w1 A 6 k v1) 7 k v2) 8 k v3) 9 k v5) 10 k v6) 11 k v7) 12 k v8
theorem W7.out {A : sm_S} {k c j : Nat} {v1 v2 v3 v5 v6 v7 v8 : Int32} (h : (c < 6 ∨ 12 < c) ∨ j ≠ k) : (W7 A k v1 v2 v3 v5 v6 v7 v8).1 c j = A.1 c j := by
  unfold W7
  rcases h with h | h
  · rw [r_cell (by omega), r_cell (by omega), r_cell (by omega), r_cell (by omega), r_cell (by omega), r_cell (by omega), r_cell (by omega)]
  · rw [r_place h, r_place h, r_place h, r_place h, r_place h, r_place h, r_place h]
theorem W7.hit {A : sm_S} {k : Nat} {v1 v2 v3 v5 v6 v7 v8 : Int32} : (W7 A k v1 v2 v3 v5 v6 v7 v8).1 6 k = v1 ∧ (W7 A k v1 v2 v3 v5 v6 v7 v8).1 7 k = v2 ∧ (W7 A k v1 v2 v3 v5 v6 v7 v8).1 8 k = v3 ∧ (W7 A k v1 v2 v3 v5 v6 v7 v8).1 9 k = v5 ∧ (W7 A k v1 v2 v3 v5 v6 v7 v8).1 10 k = v6 ∧ (W7 A k v1 v2 v3 v5 v6 v7 v8).1 11 k = v7 ∧ (W7 A k v1 v2 v3 v5 v6 v7 v8).1 12 k = v8 := by
  unfold W7
  refine ⟨?_, ?_, ?_, ?_, ?_, ?_, r_hit⟩
  · rw [r_cell (by decide), r_cell (by decide), r_cell (by decide), r_cell (by decide), r_cell (by decide), r_cell (by decide), r_hit]
  · rw [r_cell (by decide), r_cell (by decide), r_cell (by decide), r_cell (by decide), r_cell (by decide), r_hit]
  · rw [r_cell (by decide), r_cell (by decide), r_cell (by decide), r_cell (by decide), r_hit]
  · rw [r_cell (by decide), r_cell (by decide), r_cell (by decide), r_hit]
  · rw [r_cell (by decide), r_cell (by decide), r_hit]
  · rw [r_cell (by decide), r_hit]
theorem W7_zI {A : sm_S} {k : Nat} {v1 v2 v3 v5 v6 v7 v8 : Int32} (h : zI A) (h1 : 0 ≤ v1.toInt ∧ v1.toInt ≤ 9) (h2 : 0 ≤ v2.toInt ∧ v2.toInt ≤ 9) (h3 : 0 ≤ v3.toInt ∧ v3.toInt ≤ 20) (h5 : 0 ≤ v5.toInt ∧ v5.toInt ≤ 9) (h6 : 0 ≤ v6.toInt ∧ v6.toInt ≤ 9) (h7 : 0 ≤ v7.toInt ∧ v7.toInt ≤ 9) (h8 : 0 ≤ v8.toInt ∧ v8.toInt ≤ 9) : zI (W7 A k v1 v2 v3 v5 v6 v7 v8) := by
  unfold W7
  exact zI.w (zI.w (zI.w (zI.w (zI.w (zI.w (zI.w h rfl h1) rfl h2) rfl h3) rfl h5) rfl h6) rfl h7) rfl h8
theorem nb0 : vp_nar .boolean (0 : Int32) = 0 := by decide
/-- the end of a hedge's line that stands -/
theorem hedge_end {m s a b a9 b9 : sm_S} {v1 v2 v3 v5 v6 v7 v8 v9 w : Int32} {G : Bool} {z : Int} (N : MD [(82, v8), (81, v7), (80, v6), (79, v5), (78, v3), (77, v2), (76, v1)] z m s a (sm_w1 b 82 (s.1 72 25).toNatClampNeg v8)) (hz : (m.1 1 2).toInt < z) (h0 : 0 ≤ (s.1 72 25).toInt ∧ (s.1 72 25).toInt < 14) (q : PQ (W7 a (s.1 72 25).toNatClampNeg v1 v2 v3 v5 v6 v7 v8) (sm_w1 b 82 (s.1 72 25).toNatClampNeg v8) (v9, a9) (v9, b9)) (h9 : v9 = (if G then (1 : Int32) else 0)) (hw : ∀ i : Nat, i < 32 → bt w i = (decide (i = (s.1 72 25).toNatClampNeg) && G)) : LQ0 m s ((1 : Int32), (sm_w1 (sm_w1 a9 13 (s.1 72 25).toNatClampNeg (vp_nar .boolean v9)) 1 5 ((a9.1 1 5) + (1 : Int32)))) ((1 : Int32), (sm_w1 (sm_w1 (sm_w1 b9 72 26 ((b.1 72 26) ||| w)) 83 (s.1 72 25).toNatClampNeg (-1 : Int32)) 72 25 ((b9.1 72 25) + (1 : Int32)))) := by
  obtain ⟨T, P, I, J, F, G1, l, V⟩ := N
  obtain ⟨-, T9, I9, J9, F9, G9, l9⟩ := q
  have l9' : ((W7 a (s.1 72 25).toNatClampNeg v1 v2 v3 v5 v6 v7 v8).1 1 2).toInt ≤ (a9.1 1 2).toInt := l9
  rw [W7.out (by omega)] at l9'
  have ek := a_tn h0.1
  have e15 : a9.1 1 5 = a.1 1 5 := (F9 1 5 rfl).trans (W7.out (by omega))
  have e25b : (sm_w1 b 82 (s.1 72 25).toNatClampNeg v8).1 72 25 = s.1 72 25 := G1 72 25 rfl
  have e25 : b9.1 72 25 = s.1 72 25 := (G9 72 25 rfl).trans e25b
  have ea5 : (a.1 1 5).toInt = (s.1 72 25).toInt := congrArg Int32.toInt (P.2.1.trans e25b)
  have s5 : ((a9.1 1 5) + (1 : Int32)).toInt = (a.1 1 5).toInt + 1 := by
    rw [e15]; exact a_addl L1 (by omega) (by omega)
  have s25 : ((b9.1 72 25) + (1 : Int32)).toInt = (s.1 72 25).toInt + 1 := by
    rw [e25]; exact a_addl L1 (by omega) (by omega)
  have oA : ∀ c j : Nat, c ≠ 1 → (c < 6 ∨ 13 < c) ∨ (c ≠ 13 ∧ j ≠ (s.1 72 25).toNatClampNeg) ∨ j ≠ (s.1 72 25).toNatClampNeg → (sm_w1 (sm_w1 a9 13 (s.1 72 25).toNatClampNeg (vp_nar .boolean v9)) 1 5 ((a9.1 1 5) + (1 : Int32))).1 c j = a.1 c j := by
    intro c j hc hd
    rw [r_cell hc]
    by_cases q13 : c = 13
    · rw [r_place (by omega)]
      exact (F9 c j (inW1 hc)).trans (W7.out (by omega))
    · rw [r_cell q13]
      exact (F9 c j (inW1 hc)).trans (W7.out (by omega))
  have oA1 : ∀ j : Nat, j ≠ 2 → j ≠ 5 → (sm_w1 (sm_w1 a9 13 (s.1 72 25).toNatClampNeg (vp_nar .boolean v9)) 1 5 ((a9.1 1 5) + (1 : Int32))).1 1 j = a.1 1 j := by
    intro j h2 h5
    rw [r_place h5, r_cell (by decide)]
    refine (F9 1 j ?_).trans (W7.out (by omega))
    cases hi : inW [(1, 2)] 1 j with
    | false => rfl
    | true =>
      obtain ⟨p, hp, e⟩ := List.any_eq_true.mp hi
      rw [List.mem_singleton.mp hp] at e
      have := Bool.or_eq_true_iff.mp (Bool.and_eq_true_iff.mp e).2
      rcases this with q | q
      · exact absurd q (by decide)
      · exact absurd (Nat.eq_of_beq_eq_true q).symm h2
  have hA12 : (sm_w1 (sm_w1 a9 13 (s.1 72 25).toNatClampNeg (vp_nar .boolean v9)) 1 5 ((a9.1 1 5) + (1 : Int32))).1 1 2 = a9.1 1 2 := by
    rw [r_place (by decide), r_cell (by decide)]
  have oB : ∀ c j : Nat, c ≠ 72 → c ≠ 83 → (sm_w1 (sm_w1 (sm_w1 b9 72 26 ((b.1 72 26) ||| w)) 83 (s.1 72 25).toNatClampNeg (-1 : Int32)) 72 25 ((b9.1 72 25) + (1 : Int32))).1 c j = (sm_w1 b 82 (s.1 72 25).toNatClampNeg v8).1 c j := by
    intro c j h1 h2
    rw [r_cell h1, r_cell h2, r_cell h1]
    exact G9 c j (inW1 h1)
  have oB1 : ∀ j : Nat, j ≠ 25 → j ≠ 26 → (sm_w1 (sm_w1 (sm_w1 b9 72 26 ((b.1 72 26) ||| w)) 83 (s.1 72 25).toNatClampNeg (-1 : Int32)) 72 25 ((b9.1 72 25) + (1 : Int32))).1 72 j = b9.1 72 j := by
    intro j h1 h2
    rw [r_place h1, r_cell (by decide), r_place h2]
  refine ⟨rfl, ?_, ?_, ?_, fun _ => ?_, ?_, ?_⟩
  · refine TS.cg T9 hA12 ?_ (fun j => ?_) (oB1 22 (by decide) (by decide)) (oB1 23 (by decide) (by decide)) (fun j => ?_)
    · show (sm_w1 (sm_w1 a9 13 (s.1 72 25).toNatClampNeg (vp_nar .boolean v9)) 1 5 ((a9.1 1 5) + (1 : Int32))).1 1 3 = a9.1 1 3
      rw [r_place (by decide), r_cell (by decide)]
    · show (sm_w1 (sm_w1 a9 13 (s.1 72 25).toNatClampNeg (vp_nar .boolean v9)) 1 5 ((a9.1 1 5) + (1 : Int32))).1 2 j = a9.1 2 j
      rw [r_cell (by decide), r_cell (by decide)]
    · show (sm_w1 (sm_w1 (sm_w1 b9 72 26 ((b.1 72 26) ||| w)) 83 (s.1 72 25).toNatClampNeg (-1 : Int32)) 72 25 ((b9.1 72 25) + (1 : Int32))).1 84 j = b9.1 84 j
      rw [r_cell (by decide), r_cell (by decide), r_cell (by decide)]
  · have vv : ∀ c v, (c, v) ∈ [(82, v8), (81, v7), (80, v6), (79, v5), (78, v3), (77, v2), (76, v1)] → c ≠ 72 → c ≠ 83 → (sm_w1 (sm_w1 (sm_w1 b9 72 26 ((b.1 72 26) ||| w)) 83 (s.1 72 25).toNatClampNeg (-1 : Int32)) 72 25 ((b9.1 72 25) + (1 : Int32))).1 c (s.1 72 25).toNatClampNeg = v := by
      intro c v hm h1 h2
      rw [oB c _ h1 h2]
      exact V (c, v) hm
    have aa : ∀ c : Nat, 6 ≤ c → c ≤ 12 → (sm_w1 (sm_w1 a9 13 (s.1 72 25).toNatClampNeg (vp_nar .boolean v9)) 1 5 ((a9.1 1 5) + (1 : Int32))).1 c (s.1 72 25).toNatClampNeg = (W7 a (s.1 72 25).toNatClampNeg v1 v2 v3 v5 v6 v7 v8).1 c (s.1 72 25).toNatClampNeg := by
      intro c h1 h2
      rw [r_cell (by omega), r_cell (by omega)]
      exact F9 c _ (inW1 (by omega))
    obtain ⟨w1, w2, w3, w4, w5, w6, w7⟩ := W7.hit (A := a) (k := (s.1 72 25).toNatClampNeg) (v1 := v1) (v2 := v2) (v3 := v3) (v5 := v5) (v6 := v6) (v7 := v7) (v8 := v8)
    refine PS.hedge (k := (s.1 72 25).toNatClampNeg) (g := w) (G := G) P (by omega) (by omega) (oA1 4 (by decide) (by decide)) ?_ ?_ ?_ ?_ ?_ ?_ hw (zI.le J) (fun j => ⟨oA 4 j (by decide) (by omega), oA 5 j (by decide) (by omega), oB 74 j (by decide) (by decide), oB 75 j (by decide) (by decide)⟩) (fun c j h1 h2 h3 => oA c j (by omega) (by omega)) (fun c j h1 h2 h3 => oB c j (by omega) (by omega)) ?_ ?_
    · show ((sm_w1 (sm_w1 a9 13 (s.1 72 25).toNatClampNeg (vp_nar .boolean v9)) 1 5 ((a9.1 1 5) + (1 : Int32))).1 1 5).toInt = (a.1 1 5).toInt + 1
      rw [r_hit]; exact s5
    · exact (oB1 24 (by decide) (by decide)).trans (G9 72 24 rfl)
    · show ((sm_w1 (sm_w1 (sm_w1 b9 72 26 ((b.1 72 26) ||| w)) 83 (s.1 72 25).toNatClampNeg (-1 : Int32)) 72 25 ((b9.1 72 25) + (1 : Int32))).1 72 25).toInt = ((sm_w1 b 82 (s.1 72 25).toNatClampNeg v8).1 72 25).toInt + 1
      rw [r_hit, e25b]; exact s25
    · exact (oB1 6 (by decide) (by decide)).trans (G9 72 6 rfl)
    · exact (oB1 14 (by decide) (by decide)).trans (G9 72 14 rfl)
    · show (sm_w1 (sm_w1 (sm_w1 b9 72 26 ((b.1 72 26) ||| w)) 83 (s.1 72 25).toNatClampNeg (-1 : Int32)) 72 25 ((b9.1 72 25) + (1 : Int32))).1 72 26 = ((sm_w1 b 82 (s.1 72 25).toNatClampNeg v8).1 72 26) ||| w
      rw [r_place (by decide), r_cell (by decide), r_hit, r_cell (by decide)]
    · refine ⟨?_, ?_, ?_, ?_, ?_, ?_, ?_⟩
      · rw [aa 6 (by decide) (by decide), w1]; exact (vv 76 v1 (by simp) (by decide) (by decide)).symm
      · rw [aa 7 (by decide) (by decide), w2]; exact (vv 77 v2 (by simp) (by decide) (by decide)).symm
      · rw [aa 8 (by decide) (by decide), w3]; exact (vv 78 v3 (by simp) (by decide) (by decide)).symm
      · rw [aa 9 (by decide) (by decide), w4]; exact (vv 79 v5 (by simp) (by decide) (by decide)).symm
      · rw [aa 10 (by decide) (by decide), w5]; exact (vv 80 v6 (by simp) (by decide) (by decide)).symm
      · rw [aa 11 (by decide) (by decide), w6]; exact (vv 81 v7 (by simp) (by decide) (by decide)).symm
      · rw [aa 12 (by decide) (by decide), w7]; exact (vv 82 v8 (by simp) (by decide) (by decide)).symm
    · rw [r_cell (by decide), r_hit, h9]
      cases G with
      | false => exact nb0
      | true => exact nb1
  · show (m.1 1 2).toInt ≤ ((sm_w1 (sm_w1 a9 13 (s.1 72 25).toNatClampNeg (vp_nar .boolean v9)) 1 5 ((a9.1 1 5) + (1 : Int32))).1 1 2).toInt
    rw [hA12]; omega
  · show (m.1 1 2).toInt < ((sm_w1 (sm_w1 a9 13 (s.1 72 25).toNatClampNeg (vp_nar .boolean v9)) 1 5 ((a9.1 1 5) + (1 : Int32))).1 1 2).toInt
    rw [hA12]; omega
  · show (m.1 1 4).toInt ≤ ((sm_w1 (sm_w1 a9 13 (s.1 72 25).toNatClampNeg (vp_nar .boolean v9)) 1 5 ((a9.1 1 5) + (1 : Int32))).1 1 4).toInt
    rw [oA1 4 (by decide) (by decide), F 1 4 rfl]; exact Int.le_refl _
  · show (m.1 1 5).toInt ≤ ((sm_w1 (sm_w1 a9 13 (s.1 72 25).toNatClampNeg (vp_nar .boolean v9)) 1 5 ((a9.1 1 5) + (1 : Int32))).1 1 5).toInt
    rw [r_hit, s5, F 1 5 rfl]; omega
theorem t_hedge {m s : sm_S} (hP : TP m s) : TR (LQ0 m s) (fX8_readHedge m) (fX12_readsHedge s) := by
  obtain ⟨hT, hS, hI, hJ⟩ := hP
  have l0 := L0
  have l1 := L1
  have l5 := L5
  have ln1 := Ln1
  have l14 := L14
  have l58 := L58
  have l103 := L103
  have l119 := L119
  have l126 := L126
  have c5 : 0 ≤ (m.1 1 5).toInt ∧ (m.1 1 5).toInt ≤ 14 := hI.1 1 5
  have e5 : (m.1 1 5).toInt = (s.1 72 25).toInt := congrArg Int32.toInt hS.2.1
  rw [hR_eq]
  unfold fX8_readHedge
  refine tl_lt (fun h1 => ?_) (fun h1 => ?_)
  rotate_left
  · refine tr_eq (fun h2 => ?_) (fun h2 => by omega)
    exact t_ret ⟨rfl, hT, hS, Int.le_refl _, fun q => absurd (show (0 : Int32).toInt = 1 from q) (by decide), Int.le_refl _, Int.le_refl _⟩
  refine tr_eq (fun h2 => by omega) (fun _ => ?_)
  have hx : 0 ≤ (s.1 72 25).toInt ∧ (s.1 72 25).toInt < ((14 : Nat) : Int) := by omega
  have M0 : MD [] (m.1 1 2).toInt m s m s := ⟨hT, hS, hI, hJ, Fr.refl, Fr.refl, Int.le_refl _, fun p hp => absurd hp List.not_mem_nil⟩
  refine t_bdv (t_letter (k := (-1 : Int32)) (by omega) hT hS.1 hI hJ) (fun _ _ h => h.1.1) (fun v1 a1 b1 h => ?_)
  obtain ⟨q1, u1, w1, z1⟩ := h
  have u1' : (-1 : Int) ≤ v1.toInt := u1
  have w1' : v1.toInt ≤ 9 := w1
  have z1' : 0 ≤ v1.toInt → (a1.1 1 2).toInt = (m.1 1 2).toInt + 1 := z1
  dsimp only
  have M1 := MD.prim M0 rfl q1
  refine tr_ix hx (tr_ix hx ?_)
  have N1 := MD.w M1 hx.1 (c := 76) (v := v1) (by decide) (show (-1 : Int) ≤ v1.toInt ∧ v1.toInt ≤ 9 by omega) rfl rfl
  rw [r_hit]
  refine tl_le (fun g1 => ?_) (fun g1 => tr_le (fun g => by omega) (fun _ => t_ret (N1.fail (Int.le_refl _))))
  refine tr_le (fun _ => ?_) (fun g => by omega)
  have N1u : MD [(76, v1)] ((m.1 1 2).toInt + 1) m s a1 (sm_w1 b1 76 (s.1 72 25).toNatClampNeg v1) := by
    obtain ⟨n1, n2, n3, n4, n5, n6, n7, n8⟩ := N1
    exact ⟨n1, n2, n3, n4, n5, n6, by omega, n8⟩
  have hz : (m.1 1 2).toInt ≤ (m.1 1 2).toInt + 1 := by omega
  refine tr_ix hx ?_
  refine t_bdv (t_letter (k := v1) (by omega) N1u.1 N1u.2.1.1 N1u.2.2.1 N1u.2.2.2.1) (fun _ _ h => h.1.1) (fun v2 a2 b2 h => ?_)
  obtain ⟨q2, u2, w2, -⟩ := h
  have u2' : (-1 : Int) ≤ v2.toInt := u2
  have w2' : v2.toInt ≤ 9 := w2
  dsimp only
  have M2 := MD.prim N1u rfl q2
  refine tr_ix hx (tr_ix hx ?_)
  have N2 := MD.w M2 hx.1 (c := 77) (v := v2) (by decide) (show (-1 : Int) ≤ v2.toInt ∧ v2.toInt ≤ 9 by omega) rfl rfl
  rw [r_hit]
  refine tl_le (fun g2 => ?_) (fun g2 => tr_le (fun g => by omega) (fun _ => t_ret (N2.fail hz)))
  refine tr_le (fun _ => ?_) (fun g => by omega)
  refine t_bdv (t_number N2.1 N2.2.2.1 N2.2.2.2.1) (fun _ _ h => h.1.1) (fun v3 a3 b3 h => ?_)
  obtain ⟨q3, u3⟩ := h
  have u3' : v3.toInt = -1 ∨ (1 ≤ v3.toInt ∧ v3.toInt ≤ 20) := u3
  dsimp only
  have M3 := MD.prim N2 rfl q3
  refine tr_ix hx (tr_ix hx ?_)
  have N3 := MD.w M3 hx.1 (c := 78) (v := v3) (by decide) (show (-1 : Int) ≤ v3.toInt ∧ v3.toInt ≤ 20 by omega) rfl rfl
  rw [r_hit]
  refine tl_lt (fun g3 => tr_lt (fun _ => t_ret (N3.fail hz)) (fun g => by omega)) (fun g3 => tr_lt (fun g => by omega) (fun _ => ?_))
  refine t_bdv (t_skip (k := (58 : Int32)) (by omega) N3.1 N3.2.2.1 N3.2.2.2.1) (fun _ _ h => h.1.1) (fun v4 a4 b4 h => ?_)
  obtain ⟨q4, -⟩ := h
  dsimp only
  have M4 := MD.prim N3 rfl q4
  refine tl_eq (fun g4 => tr_eq (fun _ => t_ret (M4.fail hz)) (fun g => absurd g4 g)) (fun g4 => tr_eq (fun g => absurd g g4) (fun _ => ?_))
  refine t_bdv (t_digit (k := (5 : Int32)) (by omega) M4.1 M4.2.2.1 M4.2.2.2.1) (fun _ _ h => h.1.1) (fun v5 a5 b5 h => ?_)
  obtain ⟨q5, u5, w5, -⟩ := h
  have u5' : (-1 : Int) ≤ v5.toInt := u5
  have w5' : v5.toInt ≤ (5 : Int32).toInt := w5
  dsimp only
  have M5 := MD.prim M4 rfl q5
  refine tr_ix hx (tr_ix hx ?_)
  have N5 := MD.w M5 hx.1 (c := 79) (v := v5) (by decide) (show (-1 : Int) ≤ v5.toInt ∧ v5.toInt ≤ 9 by omega) rfl rfl
  rw [r_hit]
  refine tl_le (fun g5 => ?_) (fun g5 => tr_le (fun g => by omega) (fun _ => t_ret (N5.fail hz)))
  refine tr_le (fun _ => ?_) (fun g => by omega)
  refine t_bdv (t_digit (k := (5 : Int32)) (by omega) N5.1 N5.2.2.1 N5.2.2.2.1) (fun _ _ h => h.1.1) (fun v6 a6 b6 h => ?_)
  obtain ⟨q6, u6, w6, -⟩ := h
  have u6' : (-1 : Int) ≤ v6.toInt := u6
  have w6' : v6.toInt ≤ (5 : Int32).toInt := w6
  dsimp only
  have M6 := MD.prim N5 rfl q6
  refine tr_ix hx (tr_ix hx ?_)
  have N6 := MD.w M6 hx.1 (c := 80) (v := v6) (by decide) (show (-1 : Int) ≤ v6.toInt ∧ v6.toInt ≤ 9 by omega) rfl rfl
  rw [r_hit]
  refine tl_le (fun g6 => ?_) (fun g6 => tr_le (fun g => by omega) (fun _ => t_ret (N6.fail hz)))
  refine tr_le (fun _ => ?_) (fun g => by omega)
  unfold hR1
  refine t_mark (K' := hR2 (s.1 72 25)) (by omega) (by omega) N6.1 N6.2.2.1 N6.2.2.2.1 (fun v7 a7 b7 q7 u7 => ?_)
  dsimp only
  have M7 := MD.prim N6 rfl q7
  unfold hR2
  refine tr_ix hx (tr_ix hx ?_)
  have N7 := MD.w M7 hx.1 (c := 81) (v := v7) (by decide) (show (-1 : Int) ≤ v7.toInt ∧ v7.toInt ≤ 9 by omega) rfl rfl
  rw [r_hit]
  refine tl_le (fun g7 => ?_) (fun g7 => tr_le (fun g => by omega) (fun _ => t_ret (N7.fail hz)))
  refine tr_le (fun _ => ?_) (fun g => by omega)
  refine t_mark (K' := hR3 (s.1 72 25)) (by omega) (by omega) N7.1 N7.2.2.1 N7.2.2.2.1 (fun v8 a8 b8 q8 u8 => ?_)
  dsimp only
  have M8 := MD.prim N7 rfl q8
  unfold hR3
  refine tr_ix hx (tr_ix hx ?_)
  have N8 := MD.w M8 hx.1 (c := 82) (v := v8) (by decide) (show (-1 : Int) ≤ v8.toInt ∧ v8.toInt ≤ 9 by omega) rfl rfl
  rw [r_hit]
  refine tl_le (fun g8 => ?_) (fun g8 => tr_le (fun g => by omega) (fun _ => t_ret (N8.fail hz)))
  refine tr_le (fun _ => ?_) (fun g => by omega)
  have ax : a8.1 1 5 = s.1 72 25 := M8.2.1.2.1.trans (M8.2.2.2.2.2.1 72 25 rfl)
  rw [ax]
  refine tl_ix hx (tl_ix hx (tl_ix hx (tl_ix hx (tl_ix hx (tl_ix hx (tl_ix hx ?_))))))
  have iW : zI (W7 a8 (s.1 72 25).toNatClampNeg v1 v2 v3 v5 v6 v7 v8) := W7_zI N8.2.2.1 (by omega) (by omega) (by omega) (by omega) (by omega) (by omega) (by omega)
  have tW : TS (W7 a8 (s.1 72 25).toNatClampNeg v1 v2 v3 v5 v6 v7 v8) (sm_w1 b8 82 (s.1 72 25).toNatClampNeg v8) := TS.cg N8.1 (W7.out (by omega)) (W7.out (by omega)) (fun j => W7.out (by omega)) rfl rfl (fun _ => rfl)
  show TR (LQ0 m s) ((fX8_skip (103 : Int32) (W7 a8 (s.1 72 25).toNatClampNeg v1 v2 v3 v5 v6 v7 v8)).bind _) _
  refine t_bdv (t_skip (k := (103 : Int32)) (by omega) tW iW N8.2.2.2.1) (fun _ _ h => h.1.1) (fun v9 a9 b9 h => ?_)
  obtain ⟨q9, u9⟩ := h
  have u9' : v9.toInt = 0 ∨ v9.toInt = 1 := u9
  dsimp only
  refine tl_ix hx ?_
  refine tr_eq (fun g9 => tr_ix hx (t_ret ?_)) (fun g9 => tr_ix hx (t_ret ?_))
  · exact hedge_end (G := false) N8 (by omega) (by omega) q9 (Int32.toInt_inj.mp g9) (fun i hi => by rw [b_0, Bool.and_false])
  · refine hedge_end (G := true) N8 (by omega) (by omega) q9 (Int32.toInt_inj.mp (show v9.toInt = (1 : Int32).toInt by omega)) (fun i hi => ?_)
    rw [b_pow (by omega) (by omega) hi, Bool.and_true]
