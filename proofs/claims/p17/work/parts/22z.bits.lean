/-! bits of an int; how many of the first ten are set -/
def bt (x : Int32) (i : Nat) : Bool := x.toBitVec.getLsbD i
theorem b_ext {x y : Int32} (h : ∀ i, i < 32 → bt x i = bt y i) : x = y := Int32.toBitVec_inj.mp (BitVec.eq_of_getLsbD_eq (fun i hi => h i hi))
theorem b_or (x y : Int32) (i : Nat) : bt (x ||| y) i = (bt x i || bt y i) := by unfold bt; rw [Int32.toBitVec_or, BitVec.getLsbD_or]
theorem b_and (x y : Int32) (i : Nat) : bt (x &&& y) i = (bt x i && bt y i) := by unfold bt; rw [Int32.toBitVec_and, BitVec.getLsbD_and]
theorem b_xor (x y : Int32) (i : Nat) : bt (x ^^^ y) i = (bt x i ^^ bt y i) := by unfold bt; rw [Int32.toBitVec_xor, BitVec.getLsbD_xor]
theorem b_big {x : Int32} {i : Nat} (h : 32 ≤ i) : bt x i = false := BitVec.getLsbD_of_ge _ _ h
theorem b_m1 : ∀ i, i < 32 → bt (-1) i = true := by decide +kernel
theorem b_0 (i : Nat) : bt 0 i = false := BitVec.getLsbD_zero
theorem b_sl : ∀ n, n < 32 → ((nI n &&& 31).toBitVec.smod 32).toNat = n := by decide +kernel
theorem b_shl (n : Nat) (hn : n < 32) (x : Int32) {i : Nat} (hi : i < 32) : bt (x <<< (nI n &&& 31)) i = (decide (n ≤ i) && bt x (i - n)) := by
  unfold bt
  rw [Int32.toBitVec_shiftLeft]
  show (x.toBitVec <<< ((nI n &&& 31).toBitVec.smod 32).toNat).getLsbD i = _
  rw [b_sl n hn, BitVec.getLsbD_shiftLeft]
  rcases Nat.lt_or_ge i n with h | h
  · simp [h, Nat.not_le.mpr h]
  · simp [hi, h, Nat.not_lt.mpr h]
theorem b_sshr (n : Nat) (hn : n < 32) (x : Int32) {i : Nat} (hi : i < 32) : bt (x >>> (nI n &&& 31)) i = if n + i < 32 then bt x (n + i) else bt x 31 := by
  unfold bt
  rw [Int32.toBitVec_shiftRight]
  show (x.toBitVec.sshiftRight ((nI n &&& 31).toBitVec.smod 32).toNat).getLsbD i = _
  rw [b_sl n hn, BitVec.getLsbD_sshiftRight, BitVec.msb_eq_getLsbD_last]
  simp [hi]
theorem b_1 : ∀ i, i < 32 → bt 1 i = decide (i = 0) := by decide +kernel
theorem b_pow {b : Int32} (h0 : 0 ≤ b.toInt) (h1 : b.toInt < 32) {i : Nat} (hi : i < 32) : bt ((1 : Int32) <<< (b &&& 31)) i = decide (i = b.toNatClampNeg) := by
  have e := a_tn h0
  have h := b_shl b.toNatClampNeg (by omega) 1 hi
  rw [← a_nI h0] at h
  rw [h, b_1 _ (by omega)]
  by_cases q : b.toNatClampNeg ≤ i
  · rw [decide_eq_true q, Bool.true_and]
    exact decide_eq_decide.mpr (by omega)
  · rw [decide_eq_false q, Bool.false_and]
    exact (decide_eq_false (by omega)).symm
theorem b_del {x b : Int32} (h0 : 0 ≤ b.toInt) (h1 : b.toInt < 32) {i : Nat} (hi : i < 32) : bt (x &&& (((1 : Int32) <<< (b &&& 31)) ^^^ (-1 : Int32))) i = (bt x i && !decide (i = b.toNatClampNeg)) := by
  rw [b_and, b_xor, b_pow h0 h1 hi, b_m1 i hi, Bool.xor_true]
theorem b_has {x b : Int32} (h0 : 0 ≤ b.toInt) (h1 : b.toInt < 32) : ((x >>> (b &&& 31)) &&& (1 : Int32)) = 1 ↔ bt x b.toNatClampNeg = true := by
  have e := a_tn h0
  have h := b_sshr b.toNatClampNeg (by omega) x (i := 0) (by decide)
  rw [← a_nI h0, if_pos (by omega)] at h
  constructor
  · intro q
    have := congrArg (fun z => bt z 0) q
    simp only [b_and] at this
    rw [h, b_1 0 (by decide)] at this
    simpa using this
  · intro q
    refine b_ext (fun i hi => ?_)
    rw [b_and, b_1 i hi]
    by_cases hi0 : i = 0
    · subst hi0; rw [h]; simpa using q
    · rw [decide_eq_false hi0, Bool.and_false]
theorem b_nat (n : Nat) (i : Nat) (hi : i < 32) : bt (nI n) i = n.testBit i := by
  show (BitVec.ofNat 32 n).getLsbD i = _
  rw [BitVec.getLsbD_ofNat]
  simp [hi]
theorem b_hi {x : Int32} {k i : Nat} (h0 : 0 ≤ x.toInt) (h1 : x.toInt < ((2 ^ k : Nat) : Int)) (hi : k ≤ i) : bt x i = false := by
  rcases Nat.lt_or_ge i 32 with h | h
  · rw [a_nI h0, b_nat _ _ h]
    have e := a_tn h0
    refine Nat.testBit_lt_two_pow (Nat.lt_of_lt_of_le (by omega) (Nat.pow_le_pow_right (by decide) hi))
  · exact b_big h
/-- how many i < n have p -/
def cnt (p : Nat → Bool) : Nat → Nat
  | 0 => 0
  | n + 1 => cnt p n + (if p n = true then 1 else 0)
theorem cnt_le (p : Nat → Bool) : ∀ n, cnt p n ≤ n
  | 0 => Nat.le_refl 0
  | n + 1 => by
    have := cnt_le p n
    show cnt p n + (if p n = true then 1 else 0) ≤ n + 1
    split <;> omega
theorem cnt_cong {p q : Nat → Bool} : ∀ {n : Nat}, (∀ k, k < n → p k = q k) → cnt p n = cnt q n
  | 0, _ => rfl
  | n + 1, h => by
    show cnt p n + (if p n = true then 1 else 0) = cnt q n + (if q n = true then 1 else 0)
    rw [cnt_cong (fun k hk => h k (by omega)), h n (by omega)]
theorem cnt_mono {p q : Nat → Bool} : ∀ {n : Nat}, (∀ k, k < n → p k = true → q k = true) → cnt p n ≤ cnt q n
  | 0, _ => Nat.le_refl _
  | n + 1, h => by
    have h1 := cnt_mono (n := n) (fun k hk => h k (by omega))
    show cnt p n + (if p n = true then 1 else 0) ≤ cnt q n + (if q n = true then 1 else 0)
    by_cases e : p n = true
    · rw [if_pos e, if_pos (h n (by omega) e)]; omega
    · rw [if_neg e]; split <;> omega
theorem cnt_lt {p q : Nat → Bool} : ∀ {n : Nat} (b : Nat), (∀ k, k < n → p k = true → q k = true) → b < n → p b = false → q b = true → cnt p n < cnt q n
  | 0, _, _, h, _, _ => absurd h (Nat.not_lt_zero _)
  | n + 1, b, h, hb, h1, h2 => by
    show cnt p n + (if p n = true then 1 else 0) < cnt q n + (if q n = true then 1 else 0)
    by_cases e : b = n
    · subst e
      rw [if_neg (by rw [h1]; decide), if_pos h2]
      have := cnt_mono (n := b) (fun k hk => h k (by omega))
      omega
    · have ih := cnt_lt (n := n) b (fun k hk => h k (by omega)) (by omega) h1 h2
      by_cases e2 : p n = true
      · rw [if_pos e2, if_pos (h n (by omega) e2)]; omega
      · rw [if_neg e2]; split <;> omega
theorem cnt_del {p q : Nat → Bool} : ∀ {n : Nat} (b : Nat), b < n → p b = true → (∀ k, k < n → q k = (p k && !decide (k = b))) → cnt q n + 1 = cnt p n
  | 0, _, h, _, _ => absurd h (Nat.not_lt_zero _)
  | n + 1, b, hb, hp, h => by
    show cnt q n + (if q n = true then 1 else 0) + 1 = cnt p n + (if p n = true then 1 else 0)
    by_cases e : b = n
    · subst e
      have e1 : q b = false := by rw [h b (by omega)]; simp
      rw [e1, if_neg (by decide), if_pos hp]
      rw [cnt_cong (p := q) (q := p) (fun k hk => by rw [h k (by omega), decide_eq_false (by omega)]; simp)]
    · have ih := cnt_del (n := n) b (by omega) hp (fun k hk => h k (by omega))
      have e1 : q n = p n := by rw [h n (by omega), decide_eq_false (by omega)]; simp
      rw [e1]; omega
def pc (x : Int32) : Nat := cnt (bt x) 10
theorem pc_le (x : Int32) : pc x ≤ 10 := cnt_le _ _
theorem pc_del {x b : Int32} (h0 : 0 ≤ b.toInt) (h1 : b.toInt < 10) (hb : bt x b.toNatClampNeg = true) : pc (x &&& (((1 : Int32) <<< (b &&& 31)) ^^^ (-1 : Int32))) + 1 = pc x := by
  have e := a_tn h0
  exact cnt_del b.toNatClampNeg (by omega) hb (fun k hk => b_del h0 (by omega) (by omega))
theorem pc_pos {x : Int32} {b : Nat} (h1 : b < 10) (hb : bt x b = true) : 1 ≤ pc x := by
  have := cnt_lt (p := fun _ => false) (q := bt x) (n := 10) b (fun _ _ h => by cases h) h1 rfl hb
  unfold pc; omega
