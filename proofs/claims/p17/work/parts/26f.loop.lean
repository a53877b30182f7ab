/-! A LAND'S TEXT, read by both to its end -/
theorem tl_nbd {β : Type} {P : Int32 × sm_S → β → Prop} {o : Option (Int32 × sm_S)} {o' : Option β} (h : TR P o o') (hb : ∀ a b, P a b → a.1.toInt = 0 ∨ a.1.toInt = 1) : TR P (o.bind fun r => if narrow .boolean (.int r.1) = .int r.1 then some (r.1, r.2) else none) o' := by
  obtain ⟨a, b, rfl, rfl, h⟩ := h
  refine ⟨a, b, ?_, rfl, h⟩
  have e : narrow .boolean (.int a.1) = .int a.1 := by
    rcases hb a b h with q | q
    · rw [show a.1 = 0 from Int32.toInt_inj.mp q]; exact sm_nb0
    · rw [show a.1 = 1 from Int32.toInt_inj.mp q]; exact sm_nb1
  show (if narrow .boolean (.int a.1) = .int a.1 then some (a.1, a.2) else none) = some a
  rw [if_pos e]
theorem tlb {α β γ : Type} {P : α → β → Prop} {Q : γ → β → Prop} {o : Option α} {o' : Option β} {k : α → Option γ} (h : TR P o o') (h2 : ∀ a b, P a b → TR Q (k a) (some b)) : TR Q (o.bind k) o' := by
  obtain ⟨a, b, rfl, rfl, h⟩ := h
  exact h2 a b h
def wLN : List (Nat × Nat) := [(72, 22), (72, 24), (72, 25), (72, 26), (74, 999), (75, 999), (76, 999), (77, 999), (78, 999), (79, 999), (80, 999), (81, 999), (82, 999), (83, 999)]
/-- behind a line: both stand, or both fail at the same sign -/
def LQ (m s : sm_S) (a b : Int32 × sm_S) : Prop := LQ0 m s a b ∧ (a.1.toInt = 0 ∨ a.1.toInt = 1) ∧ zI a.2 ∧ zI b.2 ∧ Fr wX8_readLine m a.2 ∧ Fr wLN s b.2
theorem t_lineC {m s : sm_S} (hP : TP m s) (hl : (m.1 1 2).toInt < (m.1 1 3).toInt) (hx : (m.1 2 (m.1 1 2).toNatClampNeg).toInt = 64) : TR (LQ m s) (fX8_readLine m) (fX12_readsCorner s) := by
  have l64 := L64
  have c12 : 0 ≤ (m.1 1 2).toInt ∧ (m.1 1 2).toInt ≤ 80 := hP.2.2.1.1 1 2
  have c13 : 0 ≤ (m.1 1 3).toInt ∧ (m.1 1 3).toInt ≤ 76 := hP.2.2.1.1 1 3
  unfold fX8_readLine
  refine tl_bd (zX8_signAt_v m hP.2.2.1) (fun r2 hr => ?_)
  obtain ⟨-, -, hr⟩ := hr
  refine tl_eq (fun g => ?_) (fun g => by rcases hr with hr | hr <;> omega)
  refine tl_nbd (t_mono (t_and (t_corner hP hl hx) (zX8_readCorner m (by omega) hP.2.2.1) (zX12_readsCorner s hP.2.2.2)) ?_) (fun a b h => h.2.1)
  rintro a b ⟨h, ⟨⟨h1, h2⟩, i1, f1⟩, ⟨-, j1, g1⟩⟩
  exact ⟨h, by omega, i1, j1, Fr.sub f1 rfl, Fr.sub g1 rfl⟩
theorem t_lineH {m s : sm_S} (hP : TP m s) (hx : (m.1 1 3).toInt ≤ (m.1 1 2).toInt ∨ (m.1 2 (m.1 1 2).toNatClampNeg).toInt ≠ 64) : TR (LQ m s) (fX8_readLine m) (fX12_readsHedge s) := by
  have l64 := L64
  unfold fX8_readLine
  refine tl_bd (zX8_signAt_v m hP.2.2.1) (fun r2 hr => ?_)
  obtain ⟨-, -, hr⟩ := hr
  refine tl_eq (fun g => by rcases hr with hr | hr <;> omega) (fun g => ?_)
  refine tl_nbd (t_mono (t_and (t_hedge hP) (zX8_readHedge m hP.2.2.1) (zX12_readsHedge s hP.2.2.2)) ?_) (fun a b h => h.2.1)
  rintro a b ⟨h, ⟨⟨h1, h2⟩, i1, f1⟩, ⟨-, j1, g1⟩⟩
  exact ⟨h, by omega, i1, j1, Fr.sub f1 rfl, Fr.sub g1 rfl⟩
theorem neg1 {x : Int32} (h : 0 ≤ x.toInt ∧ x.toInt ≤ 80) : ((-1 : Int32) - x).toInt = -1 - x.toInt := by
  have l := Ln1
  rw [a_sub (by omega) (by omega), l]
/-- the land of both -/
def XP (m s : sm_S) : Prop := m.1 3 0 = s.1 72 3 ∧ m.1 3 1 = s.1 72 6 ∧ RP (m.1 3 0).toInt (m.1 3 1).toInt (s.1 72 14) m s
def PL (z : Int) (a b : Int32 × sm_S) : Prop := a.1 = b.1 ∧ XP a.2 b.2 ∧ z ≤ (a.2.1 3 1).toInt
theorem PS.old {m s : sm_S} (h : PS m s) (hI : zI m) (e1 : m.1 3 0 = s.1 72 3) (e2 : m.1 3 1 = s.1 72 6) (l1 : (m.1 3 0).toInt ≤ (m.1 1 4).toInt) (l2 : (m.1 3 1).toInt ≤ (m.1 1 5).toInt) : XP m s := by
  obtain ⟨h1, h2, ⟨h3, h4⟩, h5, h6⟩ := h
  have c31 : 0 ≤ (m.1 3 1).toInt ∧ (m.1 3 1).toInt ≤ 14 := hI.1 3 1
  have e2' : (m.1 3 1).toInt = (s.1 72 6).toInt := congrArg Int32.toInt e2
  refine ⟨e1, e2, fun j hj => h3 j (by omega), fun j hj => ?_⟩
  obtain ⟨q1, q2, q3, q4, q5, q6, q7, q8⟩ := h4 j (by omega)
  refine ⟨q1, q2, q3, q4, q5, q6, q7, ?_⟩
  have n26 : bt (s.1 72 26) j = false := by
    cases hq : bt (s.1 72 26) j with
    | false => rfl
    | true => have := h5 j (by omega) hq; omega
  rw [q8, b_or, n26, Bool.or_false]
theorem PS.new {m s : sm_S} (h : PS m s) (w : Int32) : XP (sm_w1 (sm_w1 m 3 0 (m.1 1 4)) 3 1 (m.1 1 5)) (sm_w1 (sm_w1 (sm_w1 (sm_w1 s 72 3 (s.1 72 24)) 72 6 (s.1 72 25)) 72 14 ((s.1 72 14) ||| (s.1 72 26))) 72 27 w) := by
  obtain ⟨h1, h2, ⟨h3, h4⟩, h5, h6⟩ := h
  have a0 : (sm_w1 (sm_w1 m 3 0 (m.1 1 4)) 3 1 (m.1 1 5)).1 3 0 = m.1 1 4 := rfl
  have a1 : (sm_w1 (sm_w1 m 3 0 (m.1 1 4)) 3 1 (m.1 1 5)).1 3 1 = m.1 1 5 := rfl
  have ac : ∀ c j : Nat, c ≠ 3 → (sm_w1 (sm_w1 m 3 0 (m.1 1 4)) 3 1 (m.1 1 5)).1 c j = m.1 c j := fun c j h => by rw [r_cell h, r_cell h]
  have b3 : (sm_w1 (sm_w1 (sm_w1 (sm_w1 s 72 3 (s.1 72 24)) 72 6 (s.1 72 25)) 72 14 ((s.1 72 14) ||| (s.1 72 26))) 72 27 w).1 72 3 = s.1 72 24 := rfl
  have b6 : (sm_w1 (sm_w1 (sm_w1 (sm_w1 s 72 3 (s.1 72 24)) 72 6 (s.1 72 25)) 72 14 ((s.1 72 14) ||| (s.1 72 26))) 72 27 w).1 72 6 = s.1 72 25 := rfl
  have b14 : (sm_w1 (sm_w1 (sm_w1 (sm_w1 s 72 3 (s.1 72 24)) 72 6 (s.1 72 25)) 72 14 ((s.1 72 14) ||| (s.1 72 26))) 72 27 w).1 72 14 = ((s.1 72 14) ||| (s.1 72 26)) := rfl
  have bc : ∀ c j : Nat, c ≠ 72 → (sm_w1 (sm_w1 (sm_w1 (sm_w1 s 72 3 (s.1 72 24)) 72 6 (s.1 72 25)) 72 14 ((s.1 72 14) ||| (s.1 72 26))) 72 27 w).1 c j = s.1 c j := fun c j h => by rw [r_cell h, r_cell h, r_cell h, r_cell h]
  unfold XP
  rw [a0, a1, b3, b6, b14]
  refine ⟨h1, h2, fun j hj => ?_, fun j hj => ?_⟩
  · rw [ac 4 j (by decide), ac 5 j (by decide), bc 74 j (by decide), bc 75 j (by decide)]; exact h3 j hj
  · rw [ac 6 j (by decide), ac 7 j (by decide), ac 8 j (by decide), ac 9 j (by decide), ac 10 j (by decide), ac 11 j (by decide), ac 12 j (by decide), ac 13 j (by decide), bc 76 j (by decide), bc 77 j (by decide), bc 78 j (by decide), bc 79 j (by decide), bc 80 j (by decide), bc 81 j (by decide), bc 82 j (by decide)]; exact h4 j hj
set_option maxHeartbeats 1000000 in
theorem t_loop (z : Int) : ∀ (n : Nat) (L v2 v3 : Int32) (m s : sm_S), TP m s → z ≤ (m.1 3 1).toInt → m.1 3 0 = s.1 72 3 → m.1 3 1 = s.1 72 6 → (m.1 3 0).toInt ≤ (m.1 1 4).toInt → (m.1 3 1).toInt ≤ (m.1 1 5).toInt → m.1 1 1 = L → 1 ≤ L.toInt ∧ L.toInt ≤ 80 → ((L.toInt ≤ 76 ∧ (m.1 1 3).toInt = L.toInt) ∨ (76 < L.toInt ∧ (m.1 1 3).toInt = 76)) → (v3.toInt = 0 ∨ v3.toInt = 1) → 0 ≤ v2.toInt → v2.toInt ≤ (m.1 1 2).toInt → 2 * (81 - (m.1 1 2).toInt) + v3.toInt < (n : Int) → TR (PL z) (fX8_readLines_38 n v2 v3 m) (fX12_land_48 n L v2 (1 : Int32) v3 s) := by
  intro n
  induction n with
  | zero =>
    intro L v2 v3 m s hP hz e1 e2 l1 l2 eL hL hlim h3 h20 h2 hm
    have c12 : 0 ≤ (m.1 1 2).toInt ∧ (m.1 1 2).toInt ≤ 80 := hP.2.2.1.1 1 2
    have h00 : ((0 : Nat) : Int) = 0 := rfl
    omega
  | succ n ih =>
    intro L v2 v3 m s hP hz e1 e2 l1 l2 eL hL hlim h3 h20 h2 hm
    have hnn : ((n + 1 : Nat) : Int) = (n : Int) + 1 := by omega
    have l0 := L0
    have ln1 := Ln1
    have k1 := L1
    have k59 := L59
    have k64 := L64
    have k76 := L76
    have hT := hP.1
    have hS := hP.2.1
    have hI := hP.2.2.1
    have hJ := hP.2.2.2
    have c12 : 0 ≤ (m.1 1 2).toInt ∧ (m.1 1 2).toInt ≤ 80 := hI.1 1 2
    have eat : (m.1 1 2).toInt = (s.1 72 22).toInt := congrArg Int32.toInt hT.1
    have elim : (m.1 1 3).toInt = (s.1 72 23).toInt := congrArg Int32.toInt hT.2.1
    have hle := hT.2.2.1
    have eL' : (m.1 1 1).toInt = L.toInt := congrArg Int32.toInt eL
    have cont : ∀ (a b : Int32 × sm_S), LQ m s a b → v3.toInt = 1 → TR (PL z) (if a.1 = 0 then (some (((-1 : Int32) - (a.2.1 1 2)), a.2)) else ((fX8_skip (59 : Int32) a.2).bind fun r4 => fX8_readLines_38 n (v2 + (1 : Int32)) r4.1 r4.2)) (if b.1 = 0 then (fX12_land_48 n L (v2 + (1 : Int32)) b.1 (0 : Int32) b.2) else ((fX12_takes (59 : Int32) b.2).bind fun r10 => if r10.1 = 0 then (fX12_land_48 n L (v2 + (1 : Int32)) b.1 (0 : Int32) r10.2) else (fX12_land_48 n L (v2 + (1 : Int32)) b.1 (1 : Int32) r10.2))) := by
      rintro a b ⟨⟨e, T, S, q1, q2, q4, q5⟩, h01, i1, j1, F, G⟩ hv3
      have e' : a.1.toInt = b.1.toInt := congrArg Int32.toInt e
      have f11 : a.2.1 1 1 = m.1 1 1 := F 1 1 rfl
      have f13 : (a.2.1 1 3).toInt = (m.1 1 3).toInt := congrArg Int32.toInt (F 1 3 rfl)
      have f30 : a.2.1 3 0 = m.1 3 0 := F 3 0 rfl
      have f31 : a.2.1 3 1 = m.1 3 1 := F 3 1 rfl
      have f30' : (a.2.1 3 0).toInt = (m.1 3 0).toInt := congrArg Int32.toInt f30
      have f31' : (a.2.1 3 1).toInt = (m.1 3 1).toInt := congrArg Int32.toInt f31
      have g3 : a.2.1 3 0 = b.2.1 72 3 := by rw [f30, e1]; exact (G 72 3 rfl).symm
      have g6 : a.2.1 3 1 = b.2.1 72 6 := by rw [f31, e2]; exact (G 72 6 rfl).symm
      have ea : (a.2.1 1 2).toInt = (b.2.1 72 22).toInt := congrArg Int32.toInt T.1
      have el : (a.2.1 1 3).toInt = (b.2.1 72 23).toInt := congrArg Int32.toInt T.2.1
      have hla := T.2.2.1
      have ca : 0 ≤ (a.2.1 1 2).toInt ∧ (a.2.1 1 2).toInt ≤ 80 := i1.1 1 2
      refine tl_eq (fun g => tr_eq (fun g' => ?_) (fun g' => by omega)) (fun g => tr_eq (fun g' => by omega) (fun g' => ?_))
      · obtain ⟨n', rfl⟩ : ∃ n', n = n' + 1 := ⟨n - 1, by omega⟩
        have eb : b.1 = 0 := Int32.toInt_inj.mp g'
        rw [eb]
        unfold fX12_land_48
        rw [if_pos rfl]
        refine tr_bd (zX12_faultOf_v L (76 : Int32) (0 : Int32) b.2 (by omega) j1) (fun f hf => ?_)
        obtain ⟨-, -, hf⟩ := hf
        have ef : f.toInt = -1 - (a.2.1 1 2).toInt := by
          rcases hf with q | ⟨q, q2 | q2⟩ <;> omega
        refine tr_le (fun h => by omega) (fun _ => t_ret ⟨Int32.toInt_inj.mp ((neg1 ca).trans ef.symm), PS.old S i1 g3 g6 (show (a.2.1 3 0).toInt ≤ (a.2.1 1 4).toInt by omega) (show (a.2.1 3 1).toInt ≤ (a.2.1 1 5).toInt by omega), show z ≤ (a.2.1 3 1).toInt by omega⟩)
      · refine t_bd (t_skip (k := (59 : Int32)) (by omega) T i1 j1) (fun c d hc => ?_)
        obtain ⟨⟨ec, T2, I2, J2, F2, G2, l2'⟩, hc01⟩ := hc
        have S2 : PS c.2 d.2 := PS.fr S F2 G2
        have ec' : c.1.toInt = d.1.toInt := congrArg Int32.toInt ec
        have ev : (v2 + (1 : Int32)).toInt = v2.toInt + 1 := a_addl L1 (by omega) (by omega)
        have eb : b.1 = 1 := Int32.toInt_inj.mp (show b.1.toInt = (1 : Int32).toInt by omega)
        have s11 : c.2.1 1 1 = L := ((F2 1 1 rfl).trans f11).trans eL
        have s13 : (c.2.1 1 3).toInt = (m.1 1 3).toInt := by rw [F2 1 3 rfl]; exact f13
        have s30 : c.2.1 3 0 = d.2.1 72 3 := by rw [F2 3 0 rfl, g3]; exact (G2 72 3 rfl).symm
        have s31 : c.2.1 3 1 = d.2.1 72 6 := by rw [F2 3 1 rfl, g6]; exact (G2 72 6 rfl).symm
        have s30' : (c.2.1 3 0).toInt = (m.1 3 0).toInt := by rw [F2 3 0 rfl]; exact f30'
        have s31' : (c.2.1 3 1).toInt = (m.1 3 1).toInt := by rw [F2 3 1 rfl]; exact f31'
        have s14 : (c.2.1 1 4).toInt = (a.2.1 1 4).toInt := by rw [F2 1 4 rfl]
        have s15 : (c.2.1 1 5).toInt = (a.2.1 1 5).toInt := by rw [F2 1 5 rfl]
        have qq := q2 (by omega)
        have fin : TR (PL z) (fX8_readLines_38 n (v2 + (1 : Int32)) c.1 c.2) (fX12_land_48 n L (v2 + (1 : Int32)) (1 : Int32) c.1 d.2) := ih L (v2 + (1 : Int32)) c.1 c.2 d.2 ⟨T2, S2, I2, J2⟩ (by omega) s30 s31 (by omega) (by omega) s11 hL (by omega) hc01 (by omega) (by omega) (by omega)
        rw [eb]
        refine tr_eq (fun g2 => ?_) (fun g2 => ?_)
        · have : c.1 = 0 := Int32.toInt_inj.mp (show c.1.toInt = (0 : Int32).toInt by omega)
          rw [this] at fin ⊢
          exact fin
        · have : c.1 = 1 := Int32.toInt_inj.mp (show c.1.toInt = (1 : Int32).toInt by omega)
          rw [this] at fin ⊢
          exact fin
    unfold fX8_readLines_38 fX12_land_48
    refine tl_eq (fun g => tr_eq (fun g' => ?_) (fun g' => absurd g g')) (fun g => tr_eq (fun g' => absurd g' g) (fun g' => ?_))
    · refine tr_bd (zX12_faultOf_v L (76 : Int32) (1 : Int32) s (by omega) hJ) (fun f hf => ?_)
      obtain ⟨-, -, hf⟩ := hf
      refine tl_le (fun h1 => ?_) (fun h1 => ?_)
      · have ef : f.toInt = 0 := by rcases hf with q | ⟨q, q2 | q2⟩ <;> omega
        refine tr_le (fun _ => ?_) (fun h => by omega)
        refine tr_le (fun h => by omega) (fun _ => t_ret ⟨rfl, PS.new hS _, show z ≤ (m.1 1 5).toInt by omega⟩)
      · have ef : f.toInt = -1 - (m.1 1 2).toInt := by
          rcases hf with q | ⟨q, q2 | q2⟩ <;> omega
        refine tr_le (fun h => by omega) (fun _ => t_ret ⟨Int32.toInt_inj.mp ((neg1 c12).trans ef.symm), PS.old hS hI e1 e2 l1 l2, hz⟩)
    · refine tl_lt (fun h => by omega) (fun _ => ?_)
      refine tr_bd (zX12_isAt_v (64 : Int32) s (by omega) hJ) (fun r6 h6 => ?_)
      obtain ⟨-, -, h6⟩ := h6
      refine tr_eq (fun k6 => ?_) (fun k6 => ?_)
      · refine t_bd (t_lineH hP ?_) (fun a b h => cont a b h (by omega))
        by_cases q : (m.1 1 2).toInt < (m.1 1 3).toInt
        · have := (hT.ch hI q).2.2
          rcases h6 with h6 | h6 <;> omega
        · exact Or.inl (by omega)
      · have h6' : (s.1 72 22).toInt < (s.1 72 23).toInt ∧ (s.1 84 (s.1 72 22).toNatClampNeg).toInt = (64 : Int32).toInt := by
          rcases h6 with h6 | h6
          · omega
          · exact h6.2
        have q : (m.1 1 2).toInt < (m.1 1 3).toInt := by omega
        have := (hT.ch hI q).2.2
        exact t_bd (t_lineC hP q (by omega)) (fun a b h => cont a b h (by omega))
