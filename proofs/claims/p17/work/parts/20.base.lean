/-! SAFETY: what a shallow function answers on every state that can be reached; numbers as Int -/
def Sf {α : Type} (Q : α → Prop) (o : Option α) : Prop := ∃ r, o = some r ∧ Q r
theorem s_ret {α : Type} {Q : α → Prop} {v : α} (h : Q v) : Sf Q (some v) := ⟨v, rfl, h⟩
theorem s_mono {α : Type} {P Q : α → Prop} {o : Option α} (h : Sf P o) (k : ∀ r, P r → Q r) : Sf Q o := by
  obtain ⟨r, e, hr⟩ := h
  exact ⟨r, e, k r hr⟩
theorem s_if {α : Type} {Q : α → Prop} {c : Prop} [d : Decidable c] {a b : Option α} (h1 : c → Sf Q a) (h2 : ¬ c → Sf Q b) : Sf Q (if c then a else b) := by
  by_cases h : c
  · rw [if_pos h]; exact h1 h
  · rw [if_neg h]; exact h2 h
theorem s_lt {α : Type} {Q : α → Prop} {x y : Int32} {a b : Option α} (h1 : x.toInt < y.toInt → Sf Q a) (h2 : y.toInt ≤ x.toInt → Sf Q b) : Sf Q (if x < y then a else b) :=
  s_if (fun h => h1 (Int32.lt_iff_toInt_lt.mp h)) (fun h => h2 (Int.not_lt.mp (fun q => h (Int32.lt_iff_toInt_lt.mpr q))))
theorem s_le {α : Type} {Q : α → Prop} {x y : Int32} {a b : Option α} (h1 : x.toInt ≤ y.toInt → Sf Q a) (h2 : y.toInt < x.toInt → Sf Q b) : Sf Q (if x ≤ y then a else b) :=
  s_if (fun h => h1 (Int32.le_iff_toInt_le.mp h)) (fun h => h2 (Int.not_le.mp (fun q => h (Int32.le_iff_toInt_le.mpr q))))
theorem s_eq {α : Type} {Q : α → Prop} {x y : Int32} {a b : Option α} (h1 : x.toInt = y.toInt → Sf Q a) (h2 : x.toInt ≠ y.toInt → Sf Q b) : Sf Q (if x = y then a else b) :=
  s_if (fun h => h1 (congrArg Int32.toInt h)) (fun h => h2 (fun q => h (Int32.toInt_inj.mp q)))
theorem s_ix {α : Type} {Q : α → Prop} {i : Int32} {n : Nat} {a : Option α} (h : 0 ≤ i.toInt ∧ i.toInt < (n : Int)) (k : Sf Q a) : Sf Q (if sm_ix i n then a else none) := by
  have e : sm_ix i n := by
    refine ⟨Int32.le_iff_toInt_le.mpr (by rw [show (0 : Int32).toInt = 0 by decide]; exact h.1), ?_⟩
    rw [← Int32.toNat_toInt]; omega
  rw [if_pos e]; exact k
theorem s_nb {α : Type} {Q : α → Prop} {x : Int32} {a : Option α} (h : x.toInt = 0 ∨ x.toInt = 1) (k : Sf Q a) : Sf Q (if narrow .boolean (.int x) = .int x then a else none) := by
  have e : narrow .boolean (.int x) = .int x := by
    rcases h with h | h
    · rw [show x = 0 from Int32.toInt_inj.mp h]; exact sm_nb0
    · rw [show x = 1 from Int32.toInt_inj.mp h]; exact sm_nb1
  rw [if_pos e]; exact k
theorem s_bd {α β : Type} {P : α → Prop} {Q : β → Prop} {o : Option α} {k : α → Option β} (h : Sf P o) (h2 : ∀ r, P r → Sf Q (k r)) : Sf Q (o.bind k) := by
  obtain ⟨r, e, hr⟩ := h
  rw [e]; exact h2 r hr
/-! numbers -/
theorem rg (x : Int32) : (-2147483648 : Int) ≤ x.toInt ∧ x.toInt ≤ 2147483647 := by
  have a := x.le_toInt; have b := x.toInt_lt
  constructor <;> omega
theorem a_tn {x : Int32} (h : 0 ≤ x.toInt) : ((x.toNatClampNeg : Nat) : Int) = x.toInt := by rw [← Int32.toNat_toInt]; omega
theorem a_nI {x : Int32} (h : 0 ≤ x.toInt) : x = nI x.toNatClampNeg := by
  have b := x.toInt_lt
  have e := a_tn h
  exact Int32.toInt_inj.mp (by rw [nI_toInt (by omega)]; omega)
theorem a_add {x y : Int32} (h1 : -2147483648 ≤ x.toInt + y.toInt) (h2 : x.toInt + y.toInt ≤ 2147483647) : (x + y).toInt = x.toInt + y.toInt := Jvm.Kit.i32_add (by omega) (by omega)
theorem a_sub {x y : Int32} (h1 : -2147483648 ≤ x.toInt - y.toInt) (h2 : x.toInt - y.toInt ≤ 2147483647) : (x - y).toInt = x.toInt - y.toInt := Jvm.Kit.i32_sub (by omega) (by omega)
theorem a_addl {x y : Int32} {c : Int} (hy : y.toInt = c) (h1 : -2147483648 ≤ x.toInt + c) (h2 : x.toInt + c ≤ 2147483647) : (x + y).toInt = x.toInt + c := by
  rw [← hy] at h1 h2 ⊢
  exact a_add h1 h2
theorem a_subl {x y : Int32} {c : Int} (hy : y.toInt = c) (h1 : -2147483648 ≤ x.toInt - c) (h2 : x.toInt - c ≤ 2147483647) : (x - y).toInt = x.toInt - c := by
  rw [← hy] at h1 h2 ⊢
  exact a_sub h1 h2
theorem a_mul {x y : Int32} {a b : Int} (hx : x.toInt = a) (hy : y.toInt = b) (h1 : -2147483648 ≤ a * b) (h2 : a * b ≤ 2147483647) : (x * y).toInt = a * b := by
  rw [Jvm.Kit.i32_mul (by rw [hx, hy]; omega) (by rw [hx, hy]; omega), hx, hy]
theorem a_div {x y : Int32} (hx : 0 ≤ x.toInt) (hy : 0 < y.toInt) : (x / y).toInt = x.toInt / y.toInt := lg_idiv_nonneg hx hy
theorem n_and (a b : Nat) : nI a &&& nI b = nI (a &&& b) := by
  apply Int32.toBitVec_inj.1
  show BitVec.ofNat 32 a &&& BitVec.ofNat 32 b = BitVec.ofNat 32 (a &&& b)
  apply BitVec.eq_of_getLsbD_eq
  intro i hi
  simp [hi]
theorem n_or (a b : Nat) : nI a ||| nI b = nI (a ||| b) := by
  apply Int32.toBitVec_inj.1
  show BitVec.ofNat 32 a ||| BitVec.ofNat 32 b = BitVec.ofNat 32 (a ||| b)
  apply BitVec.eq_of_getLsbD_eq
  intro i hi
  simp [hi]
theorem n_xor (a b : Nat) : nI a ^^^ nI b = nI (a ^^^ b) := by
  apply Int32.toBitVec_inj.1
  show BitVec.ofNat 32 a ^^^ BitVec.ofNat 32 b = BitVec.ofNat 32 (a ^^^ b)
  apply BitVec.eq_of_getLsbD_eq
  intro i hi
  simp [hi]
theorem n_any (x : Int32) : ∃ n, n < 2 ^ 32 ∧ x = nI n := ⟨x.toBitVec.toNat, x.toBitVec.isLt, Int32.toBitVec_inj.mp (by show _ = BitVec.ofNat 32 _; simp)⟩
theorem a_andr {x y : Int32} (h : 0 ≤ y.toInt) : 0 ≤ (x &&& y).toInt ∧ (x &&& y).toInt ≤ y.toInt := by
  obtain ⟨n, -, rfl⟩ := n_any x
  have hy := a_tn h; have b := y.toInt_lt
  have e : nI n &&& y = nI (n &&& y.toNatClampNeg) := by
    conv => lhs; rw [a_nI h]
    exact n_and _ _
  have hl : n &&& y.toNatClampNeg ≤ y.toNatClampNeg := Nat.and_le_right
  rw [e, nI_toInt (by omega)]
  omega
theorem a_andl {x y : Int32} (h : 0 ≤ x.toInt) : 0 ≤ (x &&& y).toInt ∧ (x &&& y).toInt ≤ x.toInt := by
  rw [Int32.and_comm]; exact a_andr h
theorem a_or {x y : Int32} (k : Nat) {p : Int} (hk : k ≤ 31) (hp : p = 2 ^ k) (h1 : 0 ≤ x.toInt) (h2 : x.toInt < p) (h3 : 0 ≤ y.toInt) (h4 : y.toInt < p) : 0 ≤ (x ||| y).toInt ∧ (x ||| y).toInt < p := by
  have hx := a_tn h1; have hy := a_tn h3
  have hpn : ((2 ^ k : Nat) : Int) = p := by rw [hp]; simp
  have hb : x.toNatClampNeg ||| y.toNatClampNeg < 2 ^ k := Nat.or_lt_two_pow (by omega) (by omega)
  have hb2 : 2 ^ k ≤ 2 ^ 31 := Nat.pow_le_pow_right (by decide) hk
  have e : x ||| y = nI (x.toNatClampNeg ||| y.toNatClampNeg) := by
    conv => lhs; rw [a_nI h1, a_nI h3]
    exact n_or _ _
  rw [e, nI_toInt (by omega)]
  omega
theorem a_xor {x y : Int32} (k : Nat) {p : Int} (hk : k ≤ 31) (hp : p = 2 ^ k) (h1 : 0 ≤ x.toInt) (h2 : x.toInt < p) (h3 : 0 ≤ y.toInt) (h4 : y.toInt < p) : 0 ≤ (x ^^^ y).toInt ∧ (x ^^^ y).toInt < p := by
  have hx := a_tn h1; have hy := a_tn h3
  have hpn : ((2 ^ k : Nat) : Int) = p := by rw [hp]; simp
  have hb : x.toNatClampNeg ^^^ y.toNatClampNeg < 2 ^ k := Nat.xor_lt_two_pow (by omega) (by omega)
  have hb2 : 2 ^ k ≤ 2 ^ 31 := Nat.pow_le_pow_right (by decide) hk
  have e : x ^^^ y = nI (x.toNatClampNeg ^^^ y.toNatClampNeg) := by
    conv => lhs; rw [a_nI h1, a_nI h3]
    exact n_xor _ _
  rw [e, nI_toInt (by omega)]
  omega
theorem n_shl : ∀ n, n < 31 → ((1 : Int32) <<< (nI n &&& 31)).toInt = ((2 ^ n : Nat) : Int) := by decide +kernel
theorem a_shl {x : Int32} (k : Nat) {p : Int} (hk : k < 31) (hp : p = 2 ^ k) (h1 : 0 ≤ x.toInt) (h2 : x.toInt ≤ (k : Int)) : 1 ≤ ((1 : Int32) <<< (x &&& 31)).toInt ∧ ((1 : Int32) <<< (x &&& 31)).toInt ≤ p := by
  have hx := a_tn h1
  have e := n_shl x.toNatClampNeg (by omega)
  rw [← a_nI h1] at e
  have hpn : ((2 ^ k : Nat) : Int) = p := by rw [hp]; simp
  have l1 : 2 ^ x.toNatClampNeg ≤ 2 ^ k := Nat.pow_le_pow_right (by decide) (by omega)
  have l2 : 0 < 2 ^ x.toNatClampNeg := Nat.two_pow_pos _
  rw [e]
  omega
theorem a_shlE {x : Int32} (h1 : 0 ≤ x.toInt) (h2 : x.toInt < 31) : ((1 : Int32) <<< (x &&& 31)).toInt = ((2 ^ x.toNatClampNeg : Nat) : Int) := by
  have hx := a_tn h1
  have e := n_shl x.toNatClampNeg (by omega)
  rwa [← a_nI h1] at e
theorem n_and31 (y : Int32) : ∃ n, n < 32 ∧ y &&& 31 = nI n := by
  obtain ⟨n, -, rfl⟩ := n_any y
  refine ⟨n &&& 31, ?_, n_and n 31⟩
  have : n &&& 31 ≤ 31 := Nat.and_le_right
  omega
theorem n_smod : ∀ n, n < 32 → ((nI n).toBitVec.smod 32).toNat = n := by decide +kernel
theorem a_shr {x y : Int32} (h : 0 ≤ x.toInt) : 0 ≤ (x >>> (y &&& 31)).toInt ∧ (x >>> (y &&& 31)).toInt ≤ x.toInt := by
  obtain ⟨n, hn, e⟩ := n_and31 y
  have e2 : (x >>> (y &&& 31)).toInt = x.toInt >>> n := by
    rw [e, ← Int32.toInt_toBitVec, Int32.toBitVec_shiftRight]
    show (x.toBitVec.sshiftRight ((nI n).toBitVec.smod 32).toNat).toInt = _
    rw [n_smod n hn, BitVec.toInt_sshiftRight, Int32.toInt_toBitVec]
  rw [e2, Int.shiftRight_eq_div_pow]
  have hp : (0 : Int) < ((2 ^ n : Nat) : Int) := by
    have := Nat.two_pow_pos n; omega
  exact ⟨Int.ediv_nonneg h (by omega), Int.ediv_le_self _ h⟩
theorem a_shrE {x : Int32} (n : Nat) (hn : n < 32) {p : Int} (hp : p = ((2 ^ n : Nat) : Int)) {c : Int32} (hc : c &&& 31 = nI n) : (x >>> (c &&& 31)).toInt = x.toInt / p := by
  rw [hc, ← Int32.toInt_toBitVec, Int32.toBitVec_shiftRight]
  show (x.toBitVec.sshiftRight ((nI n).toBitVec.smod 32).toNat).toInt = _
  rw [n_smod n hn, BitVec.toInt_sshiftRight, Int32.toInt_toBitVec, Int.shiftRight_eq_div_pow, hp]
theorem a_bool (x : Int32) : 0 ≤ (vp_nar .boolean x).toInt ∧ (vp_nar .boolean x).toInt ≤ 1 := by
  show 0 ≤ (x &&& 1).toInt ∧ (x &&& 1).toInt ≤ 1
  have := a_andr (x := x) (y := 1) (by decide)
  rw [show (1 : Int32).toInt = 1 by decide] at this
  exact this
theorem a_char (x : Int32) : 0 ≤ (vp_nar .char x).toInt ∧ (vp_nar .char x).toInt ≤ 65535 := by
  show 0 ≤ (x.toUInt32.toUInt16.toUInt32.toInt32).toInt ∧ (x.toUInt32.toUInt16.toUInt32.toInt32).toInt ≤ 65535
  have h : x.toUInt32.toUInt16.toUInt32.toInt32 = nI x.toUInt32.toUInt16.toNat := by
    apply Int32.toBitVec_inj.1
    apply BitVec.eq_of_toNat_eq
    show x.toUInt32.toUInt16.toUInt32.toNat = (BitVec.ofNat 32 x.toUInt32.toUInt16.toNat).toNat
    have hl := UInt16.toNat_lt x.toUInt32.toUInt16
    rw [UInt16.toNat_toUInt32, BitVec.toNat_ofNat, Nat.mod_eq_of_lt (by omega)]
  have hl := UInt16.toNat_lt x.toUInt32.toUInt16
  rw [h, nI_toInt (by omega)]
  omega
theorem a_ilt {x y a b : Int32} : (x.toInt < y.toInt ∧ (if x < y then a else b).toInt = a.toInt) ∨ (y.toInt ≤ x.toInt ∧ (if x < y then a else b).toInt = b.toInt) := by
  by_cases h : x < y
  · rw [if_pos h]; exact Or.inl ⟨Int32.lt_iff_toInt_lt.mp h, rfl⟩
  · rw [if_neg h]; exact Or.inr ⟨Int.not_lt.mp (fun q => h (Int32.lt_iff_toInt_lt.mpr q)), rfl⟩
theorem a_ile {x y a b : Int32} : (x.toInt ≤ y.toInt ∧ (if x ≤ y then a else b).toInt = a.toInt) ∨ (y.toInt < x.toInt ∧ (if x ≤ y then a else b).toInt = b.toInt) := by
  by_cases h : x ≤ y
  · rw [if_pos h]; exact Or.inl ⟨Int32.le_iff_toInt_le.mp h, rfl⟩
  · rw [if_neg h]; exact Or.inr ⟨Int.not_le.mp (fun q => h (Int32.le_iff_toInt_le.mpr q)), rfl⟩
theorem fuE : ((sm_fu : Nat) : Int) = 200000 := rfl
/-! writes of the state -/
theorem r_hit {m : sm_S} {a k : Nat} {v : Int32} : (sm_w1 m a k v).1 a k = v := by
  show sm_u m.1 a k v a k = v
  rw [sm_u_row]; exact if_pos rfl
theorem r_cell {m : sm_S} {a c k j : Nat} {v : Int32} (h : c ≠ a) : (sm_w1 m a k v).1 c j = m.1 c j := sm_u_cell h
theorem r_place {m : sm_S} {a c k j : Nat} {v : Int32} (h : j ≠ k) : (sm_w1 m a k v).1 c j = m.1 c j := by
  show sm_u m.1 a k v c j = m.1 c j
  by_cases e : c = a
  · subst e; rw [sm_u_row]; exact if_neg h
  · exact sm_u_cell e
theorem r_all {m : sm_S} {a k : Nat} {v : Int32} (P : Nat → Nat → Int32 → Prop) (h1 : P a k v) (h2 : ∀ c j, P c j (m.1 c j)) : ∀ c j, P c j ((sm_w1 m a k v).1 c j) := by
  intro c j
  by_cases e : c = a
  · subst e
    by_cases e2 : j = k
    · subst e2; rw [r_hit]; exact h1
    · rw [r_place e2]; exact h2 c j
  · rw [r_cell e]; exact h2 c j
/-! FRAMES: what a function may have written -/
def inW (W : List (Nat × Nat)) (a k : Nat) : Bool := W.any (fun p => and (Nat.beq p.1 a) (or (Nat.beq p.2 999) (Nat.beq p.2 k)))
def Fr (W : List (Nat × Nat)) (m m' : sm_S) : Prop := ∀ a k : Nat, inW W a k = false → m'.1 a k = m.1 a k
theorem Fr.refl {W : List (Nat × Nat)} {m : sm_S} : Fr W m m := fun _ _ _ => rfl
theorem Fr.w {W : List (Nat × Nat)} {m S : sm_S} {a k : Nat} {v : Int32} (h : Fr W m S) (hw : inW W a k = true) : Fr W m (sm_w1 S a k v) := by
  intro c j hc
  by_cases e : c = a
  · subst e
    by_cases e2 : j = k
    · subst e2; rw [hw] at hc; cases hc
    · rw [r_place e2]; exact h c j hc
  · rw [r_cell e]; exact h c j hc
theorem Fr.w2 {W : List (Nat × Nat)} {m S : sm_S} {a k : Nat} {v : Int64} (h : Fr W m S) : Fr W m (sm_w2 S a k v) := h
def subW (V W : List (Nat × Nat)) : Bool := V.all (fun p => W.any (fun q => and (Nat.beq q.1 p.1) (or (Nat.beq q.2 999) (Nat.beq q.2 p.2))))
theorem subW_in {V W : List (Nat × Nat)} (h : subW V W = true) {a k : Nat} (hv : inW V a k = true) : inW W a k = true := by
  obtain ⟨p, hp, e⟩ := List.any_eq_true.mp hv
  obtain ⟨q, hq, e2⟩ := List.any_eq_true.mp (List.all_eq_true.mp h p hp)
  refine List.any_eq_true.mpr ⟨q, hq, ?_⟩
  have a1 := Nat.eq_of_beq_eq_true (Bool.and_eq_true_iff.mp e).1
  have a2 := Nat.eq_of_beq_eq_true (Bool.and_eq_true_iff.mp e2).1
  have b1 := Bool.or_eq_true_iff.mp (Bool.and_eq_true_iff.mp e).2
  have b2 := Bool.or_eq_true_iff.mp (Bool.and_eq_true_iff.mp e2).2
  refine Bool.and_eq_true_iff.mpr ⟨by rw [a2, a1]; exact Nat.beq_refl a, Bool.or_eq_true_iff.mpr ?_⟩
  rcases b2 with b2 | b2
  · exact Or.inl b2
  · have c2 := Nat.eq_of_beq_eq_true b2
    rcases b1 with b1 | b1
    · exact Or.inl (by rw [c2]; exact b1)
    · exact Or.inr (by rw [c2]; exact b1)
theorem Fr.trans {W V : List (Nat × Nat)} {m S S' : sm_S} (h1 : Fr W m S) (h2 : Fr V S S') (hs : subW V W = true) : Fr W m S' := by
  intro a k hk
  cases hv : inW V a k with
  | false => exact (h2 a k hv).trans (h1 a k hk)
  | true => rw [subW_in hs hv] at hk; cases hk
theorem Fr.row {W : List (Nat × Nat)} {m S : sm_S} {i : Int32} {k : Nat} {v : Int32} (h : Fr W m S) (hi : 0 ≤ i.toInt ∧ i.toInt < 10) (hw : subW [(39, 999), (40, 999), (41, 999), (42, 999), (43, 999), (44, 999), (45, 999), (46, 999), (47, 999), (48, 999)] W = true) : Fr W m (sm_w1 S (39 + i.toNatClampNeg) k v) := by
  have e := a_tn hi.1
  refine Fr.w h (subW_in hw ?_)
  have h10 : i.toNatClampNeg = 0 ∨ i.toNatClampNeg = 1 ∨ i.toNatClampNeg = 2 ∨ i.toNatClampNeg = 3 ∨ i.toNatClampNeg = 4 ∨ i.toNatClampNeg = 5 ∨ i.toNatClampNeg = 6 ∨ i.toNatClampNeg = 7 ∨ i.toNatClampNeg = 8 ∨ i.toNatClampNeg = 9 := by omega
  rcases h10 with h | h | h | h | h | h | h | h | h | h <;> rw [h] <;> rfl
theorem a_m1 (x : Int32) : x + (-1 : Int32) = x - 1 := Int32.toBitVec_inj.1 (by rw [Int32.toBitVec_sub, Int32.toBitVec_add, BitVec.sub_eq_add_neg]; rfl)
theorem a_m8 (x : Int32) : x + (-8 : Int32) = x - 8 := Int32.toBitVec_inj.1 (by rw [Int32.toBitVec_sub, Int32.toBitVec_add, BitVec.sub_eq_add_neg]; rfl)
