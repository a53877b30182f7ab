/-! decode's rows by windows: a short piece of a code's bytes is read once, its rows are read off it -/
def dq_pre : List Nat → List UInt8 → Bool
  | [], _ => true
  | _ :: _, [] => false
  | x :: xs, y :: ys => (x == y.toNat) && dq_pre xs ys
def dq_w (c : ByteArray) (b : Nat) (xs : List Nat) : Bool := dq_pre xs (c.data.toList.drop b)
theorem dq_at {xs : List Nat} : ∀ {L : List UInt8}, dq_pre xs L = true → ∀ {j v : Nat} {r : List Nat}, xs.drop j = v :: r → ∃ y : UInt8, L[j]? = some y ∧ y.toNat = v := by
  induction xs with
  | nil => intro L h j v r hj; rw [List.drop_nil] at hj; exact nomatch hj
  | cons x xs ih =>
    intro L h
    cases L with
    | nil => exact Bool.noConfusion (show false = true from h)
    | cons y ys =>
      have h2 : ((x == y.toNat) && dq_pre xs ys) = true := h
      rw [Bool.and_eq_true] at h2
      intro j v r hj
      cases j with
      | zero =>
        rw [List.drop_zero] at hj
        injection hj with e1 e2
        exact ⟨y, rfl, by rw [← e1]; exact (eq_of_beq h2.1).symm⟩
      | succ j =>
        obtain ⟨z, e1, e2⟩ := ih h2.2 (show xs.drop j = v :: r from hj)
        exact ⟨z, e1, e2⟩
theorem dq_u1 {c : ByteArray} {b : Nat} {xs : List Nat} (hw : dq_w c b xs = true) {p j v : Nat} {r : List Nat} (h : xs.drop j = v :: r) (hp : p = b + j) : (Jvm.ClassFile.Reader.u1 : Jvm.ClassFile.Decoder Nat) c p = Except.ok (v, p + 1) := by
  subst hp
  rcases c with ⟨⟨L⟩⟩
  obtain ⟨y, e1, e2⟩ := dq_at (L := L.drop b) hw h
  rw [List.getElem?_drop] at e1
  obtain ⟨hl, e3⟩ := List.getElem?_eq_some_iff.mp e1
  have hl' : b + j < (ByteArray.mk ⟨L⟩).size := hl
  show (if h : b + j < (ByteArray.mk ⟨L⟩).size then (do set (b + j + 1); pure ((ByteArray.mk ⟨L⟩)[b + j]'h).toNat) else throw (Jvm.ClassFile.HasTruncated.truncated (b + j)) : Jvm.ClassFile.Decoder Nat) ⟨⟨L⟩⟩ (b + j) = _
  rw [dif_pos hl']
  show Except.ok (((ByteArray.mk ⟨L⟩)[b + j]'hl').toNat, b + j + 1) = _
  rw [show (ByteArray.mk ⟨L⟩)[b + j]'hl' = y from e3, e2]
theorem dq_d {xs : List Nat} {j a : Nat} {l : List Nat} (h : xs.drop j = a :: l) : xs.drop (j + 1) = l := by
  rw [← List.tail_drop, h]; rfl
theorem dq_b {α β : Type} (r : Jvm.ClassFile.Decoder α) (f : α → Jvm.ClassFile.Decoder β) {c : ByteArray} {p q : Nat} {v : α} (h : r c p = Except.ok (v, q)) : (r >>= f) c p = f v c q := by
  show Except.bind (r c p) (fun y => f y.1 c y.2) = _
  rw [h]; rfl
theorem dq_m {α β : Type} (r : Jvm.ClassFile.Decoder α) (f : α → β) {c : ByteArray} {p q : Nat} {v : α} (h : r c p = Except.ok (v, q)) : (f <$> r : Jvm.ClassFile.Decoder β) c p = Except.ok (f v, q) := by
  show Except.bind (r c p) (fun y => Except.ok (f y.1, y.2)) = _
  rw [h]; rfl
theorem dq_r1 {c : ByteArray} {b : Nat} {xs : List Nat} (hw : dq_w c b xs = true) {pc j k v : Nat} {r : List Nat} (h : xs.drop j = k :: v :: r) (hp : pc = b + j) : (Jvm.ClassFile.Reader.u1 : Jvm.ClassFile.Decoder Nat) c (pc + 1) = Except.ok (v, pc + 2) :=
  dq_u1 hw (dq_d h) (by omega)
theorem dq_r1' {c : ByteArray} {b : Nat} {xs : List Nat} (hw : dq_w c b xs = true) {pc j k v w : Nat} {r : List Nat} (h : xs.drop j = k :: v :: w :: r) (hp : pc = b + j) : (Jvm.ClassFile.Reader.u1 : Jvm.ClassFile.Decoder Nat) c (pc + 2) = Except.ok (w, pc + 3) :=
  dq_u1 hw (dq_d (dq_d h)) (by omega)
theorem dq_r2 {c : ByteArray} {b : Nat} {xs : List Nat} (hw : dq_w c b xs = true) {pc j k v w : Nat} {r : List Nat} (h : xs.drop j = k :: v :: w :: r) (hp : pc = b + j) : (Jvm.ClassFile.Reader.u2 : Jvm.ClassFile.Decoder Nat) c (pc + 1) = Except.ok (v * 256 + w, pc + 3) := by
  unfold Jvm.ClassFile.Reader.u2
  exact (dq_b _ _ (dq_r1 hw h hp)).trans (dq_b _ _ (dq_r1' hw h hp))
theorem dq_run {c : ByteArray} {pc q n : Nat} {i : Jvm.ClassFile.Instr} (h : Jvm.ClassFile.Decoder.instr pc c pc = Except.ok (i, q)) (hn : q = pc + n) : decode c pc = Except.ok (i, n) := by
  subst hn
  have e : decode c pc = Except.bind (Jvm.ClassFile.Decoder.instr pc c pc) (fun y => Except.ok (y.1, y.2 - pc)) := rfl
  rw [e, h]
  show Except.ok (i, pc + n - pc) = _
  rw [Nat.add_sub_cancel_left]
theorem dq10 {c : ByteArray} {b : Nat} {xs : List Nat} (hw : dq_w c b xs = true) (j : Nat) {pc : Nat} {r : List Nat} (h : xs.drop j = 10 :: r) (hp : pc = b + j) : decode c pc = .ok (.lconst 1, 1) := by
  have A : Jvm.ClassFile.Decoder.instr pc c pc = (pure (Jvm.ClassFile.Instr.lconst 1) : Jvm.ClassFile.Decoder Jvm.ClassFile.Instr) c (pc + 1) := by unfold Jvm.ClassFile.Decoder.instr; exact dq_b _ _ (dq_u1 hw h hp)
  exact dq_run A rfl
theorem dq100 {c : ByteArray} {b : Nat} {xs : List Nat} (hw : dq_w c b xs = true) (j : Nat) {pc : Nat} {r : List Nat} (h : xs.drop j = 100 :: r) (hp : pc = b + j) : decode c pc = .ok (.isub, 1) := by
  have A : Jvm.ClassFile.Decoder.instr pc c pc = (pure (Jvm.ClassFile.Instr.isub) : Jvm.ClassFile.Decoder Jvm.ClassFile.Instr) c (pc + 1) := by unfold Jvm.ClassFile.Decoder.instr; exact dq_b _ _ (dq_u1 hw h hp)
  exact dq_run A rfl
theorem dq104 {c : ByteArray} {b : Nat} {xs : List Nat} (hw : dq_w c b xs = true) (j : Nat) {pc : Nat} {r : List Nat} (h : xs.drop j = 104 :: r) (hp : pc = b + j) : decode c pc = .ok (.imul, 1) := by
  have A : Jvm.ClassFile.Decoder.instr pc c pc = (pure (Jvm.ClassFile.Instr.imul) : Jvm.ClassFile.Decoder Jvm.ClassFile.Instr) c (pc + 1) := by unfold Jvm.ClassFile.Decoder.instr; exact dq_b _ _ (dq_u1 hw h hp)
  exact dq_run A rfl
theorem dq108 {c : ByteArray} {b : Nat} {xs : List Nat} (hw : dq_w c b xs = true) (j : Nat) {pc : Nat} {r : List Nat} (h : xs.drop j = 108 :: r) (hp : pc = b + j) : decode c pc = .ok (.idiv, 1) := by
  have A : Jvm.ClassFile.Decoder.instr pc c pc = (pure (Jvm.ClassFile.Instr.idiv) : Jvm.ClassFile.Decoder Jvm.ClassFile.Instr) c (pc + 1) := by unfold Jvm.ClassFile.Decoder.instr; exact dq_b _ _ (dq_u1 hw h hp)
  exact dq_run A rfl
theorem dq112 {c : ByteArray} {b : Nat} {xs : List Nat} (hw : dq_w c b xs = true) (j : Nat) {pc : Nat} {r : List Nat} (h : xs.drop j = 112 :: r) (hp : pc = b + j) : decode c pc = .ok (.irem, 1) := by
  have A : Jvm.ClassFile.Decoder.instr pc c pc = (pure (Jvm.ClassFile.Instr.irem) : Jvm.ClassFile.Decoder Jvm.ClassFile.Instr) c (pc + 1) := by unfold Jvm.ClassFile.Decoder.instr; exact dq_b _ _ (dq_u1 hw h hp)
  exact dq_run A rfl
theorem dq120 {c : ByteArray} {b : Nat} {xs : List Nat} (hw : dq_w c b xs = true) (j : Nat) {pc : Nat} {r : List Nat} (h : xs.drop j = 120 :: r) (hp : pc = b + j) : decode c pc = .ok (.ishl, 1) := by
  have A : Jvm.ClassFile.Decoder.instr pc c pc = (pure (Jvm.ClassFile.Instr.ishl) : Jvm.ClassFile.Decoder Jvm.ClassFile.Instr) c (pc + 1) := by unfold Jvm.ClassFile.Decoder.instr; exact dq_b _ _ (dq_u1 hw h hp)
  exact dq_run A rfl
theorem dq121 {c : ByteArray} {b : Nat} {xs : List Nat} (hw : dq_w c b xs = true) (j : Nat) {pc : Nat} {r : List Nat} (h : xs.drop j = 121 :: r) (hp : pc = b + j) : decode c pc = .ok (.lshl, 1) := by
  have A : Jvm.ClassFile.Decoder.instr pc c pc = (pure (Jvm.ClassFile.Instr.lshl) : Jvm.ClassFile.Decoder Jvm.ClassFile.Instr) c (pc + 1) := by unfold Jvm.ClassFile.Decoder.instr; exact dq_b _ _ (dq_u1 hw h hp)
  exact dq_run A rfl
theorem dq122 {c : ByteArray} {b : Nat} {xs : List Nat} (hw : dq_w c b xs = true) (j : Nat) {pc : Nat} {r : List Nat} (h : xs.drop j = 122 :: r) (hp : pc = b + j) : decode c pc = .ok (.ishr, 1) := by
  have A : Jvm.ClassFile.Decoder.instr pc c pc = (pure (Jvm.ClassFile.Instr.ishr) : Jvm.ClassFile.Decoder Jvm.ClassFile.Instr) c (pc + 1) := by unfold Jvm.ClassFile.Decoder.instr; exact dq_b _ _ (dq_u1 hw h hp)
  exact dq_run A rfl
theorem dq123 {c : ByteArray} {b : Nat} {xs : List Nat} (hw : dq_w c b xs = true) (j : Nat) {pc : Nat} {r : List Nat} (h : xs.drop j = 123 :: r) (hp : pc = b + j) : decode c pc = .ok (.lshr, 1) := by
  have A : Jvm.ClassFile.Decoder.instr pc c pc = (pure (Jvm.ClassFile.Instr.lshr) : Jvm.ClassFile.Decoder Jvm.ClassFile.Instr) c (pc + 1) := by unfold Jvm.ClassFile.Decoder.instr; exact dq_b _ _ (dq_u1 hw h hp)
  exact dq_run A rfl
theorem dq124 {c : ByteArray} {b : Nat} {xs : List Nat} (hw : dq_w c b xs = true) (j : Nat) {pc : Nat} {r : List Nat} (h : xs.drop j = 124 :: r) (hp : pc = b + j) : decode c pc = .ok (.iushr, 1) := by
  have A : Jvm.ClassFile.Decoder.instr pc c pc = (pure (Jvm.ClassFile.Instr.iushr) : Jvm.ClassFile.Decoder Jvm.ClassFile.Instr) c (pc + 1) := by unfold Jvm.ClassFile.Decoder.instr; exact dq_b _ _ (dq_u1 hw h hp)
  exact dq_run A rfl
theorem dq126 {c : ByteArray} {b : Nat} {xs : List Nat} (hw : dq_w c b xs = true) (j : Nat) {pc : Nat} {r : List Nat} (h : xs.drop j = 126 :: r) (hp : pc = b + j) : decode c pc = .ok (.iand, 1) := by
  have A : Jvm.ClassFile.Decoder.instr pc c pc = (pure (Jvm.ClassFile.Instr.iand) : Jvm.ClassFile.Decoder Jvm.ClassFile.Instr) c (pc + 1) := by unfold Jvm.ClassFile.Decoder.instr; exact dq_b _ _ (dq_u1 hw h hp)
  exact dq_run A rfl
theorem dq127 {c : ByteArray} {b : Nat} {xs : List Nat} (hw : dq_w c b xs = true) (j : Nat) {pc : Nat} {r : List Nat} (h : xs.drop j = 127 :: r) (hp : pc = b + j) : decode c pc = .ok (.land, 1) := by
  have A : Jvm.ClassFile.Decoder.instr pc c pc = (pure (Jvm.ClassFile.Instr.land) : Jvm.ClassFile.Decoder Jvm.ClassFile.Instr) c (pc + 1) := by unfold Jvm.ClassFile.Decoder.instr; exact dq_b _ _ (dq_u1 hw h hp)
  exact dq_run A rfl
theorem dq128 {c : ByteArray} {b : Nat} {xs : List Nat} (hw : dq_w c b xs = true) (j : Nat) {pc : Nat} {r : List Nat} (h : xs.drop j = 128 :: r) (hp : pc = b + j) : decode c pc = .ok (.ior, 1) := by
  have A : Jvm.ClassFile.Decoder.instr pc c pc = (pure (Jvm.ClassFile.Instr.ior) : Jvm.ClassFile.Decoder Jvm.ClassFile.Instr) c (pc + 1) := by unfold Jvm.ClassFile.Decoder.instr; exact dq_b _ _ (dq_u1 hw h hp)
  exact dq_run A rfl
theorem dq129 {c : ByteArray} {b : Nat} {xs : List Nat} (hw : dq_w c b xs = true) (j : Nat) {pc : Nat} {r : List Nat} (h : xs.drop j = 129 :: r) (hp : pc = b + j) : decode c pc = .ok (.lor, 1) := by
  have A : Jvm.ClassFile.Decoder.instr pc c pc = (pure (Jvm.ClassFile.Instr.lor) : Jvm.ClassFile.Decoder Jvm.ClassFile.Instr) c (pc + 1) := by unfold Jvm.ClassFile.Decoder.instr; exact dq_b _ _ (dq_u1 hw h hp)
  exact dq_run A rfl
theorem dq130 {c : ByteArray} {b : Nat} {xs : List Nat} (hw : dq_w c b xs = true) (j : Nat) {pc : Nat} {r : List Nat} (h : xs.drop j = 130 :: r) (hp : pc = b + j) : decode c pc = .ok (.ixor, 1) := by
  have A : Jvm.ClassFile.Decoder.instr pc c pc = (pure (Jvm.ClassFile.Instr.ixor) : Jvm.ClassFile.Decoder Jvm.ClassFile.Instr) c (pc + 1) := by unfold Jvm.ClassFile.Decoder.instr; exact dq_b _ _ (dq_u1 hw h hp)
  exact dq_run A rfl
theorem dq131 {c : ByteArray} {b : Nat} {xs : List Nat} (hw : dq_w c b xs = true) (j : Nat) {pc : Nat} {r : List Nat} (h : xs.drop j = 131 :: r) (hp : pc = b + j) : decode c pc = .ok (.lxor, 1) := by
  have A : Jvm.ClassFile.Decoder.instr pc c pc = (pure (Jvm.ClassFile.Instr.lxor) : Jvm.ClassFile.Decoder Jvm.ClassFile.Instr) c (pc + 1) := by unfold Jvm.ClassFile.Decoder.instr; exact dq_b _ _ (dq_u1 hw h hp)
  exact dq_run A rfl
theorem dq132 {c : ByteArray} {b : Nat} {xs : List Nat} (hw : dq_w c b xs = true) (j : Nat) {pc : Nat} {r : List Nat} {v w : Nat} {n : Int} (h : xs.drop j = 132 :: v :: w :: r) (hp : pc = b + j) (hn : Jvm.ClassFile.Reader.signed 8 w = n) : decode c pc = .ok (.iinc v n, 3) := by
  subst hn
  have A : Jvm.ClassFile.Decoder.instr pc c pc = (Jvm.ClassFile.Reader.u1 >>= fun x => Jvm.ClassFile.Reader.s1 >>= fun y => pure (Jvm.ClassFile.Instr.iinc x y) : Jvm.ClassFile.Decoder Jvm.ClassFile.Instr) c (pc + 1) := by unfold Jvm.ClassFile.Decoder.instr; exact dq_b _ _ (dq_u1 hw h hp)
  exact dq_run (A.trans ((dq_b _ _ (dq_r1 hw h hp)).trans (dq_b _ _ (dq_m _ _ (dq_r1' hw h hp))))) rfl
theorem dq133 {c : ByteArray} {b : Nat} {xs : List Nat} (hw : dq_w c b xs = true) (j : Nat) {pc : Nat} {r : List Nat} (h : xs.drop j = 133 :: r) (hp : pc = b + j) : decode c pc = .ok (.i2l, 1) := by
  have A : Jvm.ClassFile.Decoder.instr pc c pc = (pure (Jvm.ClassFile.Instr.i2l) : Jvm.ClassFile.Decoder Jvm.ClassFile.Instr) c (pc + 1) := by unfold Jvm.ClassFile.Decoder.instr; exact dq_b _ _ (dq_u1 hw h hp)
  exact dq_run A rfl
theorem dq136 {c : ByteArray} {b : Nat} {xs : List Nat} (hw : dq_w c b xs = true) (j : Nat) {pc : Nat} {r : List Nat} (h : xs.drop j = 136 :: r) (hp : pc = b + j) : decode c pc = .ok (.l2i, 1) := by
  have A : Jvm.ClassFile.Decoder.instr pc c pc = (pure (Jvm.ClassFile.Instr.l2i) : Jvm.ClassFile.Decoder Jvm.ClassFile.Instr) c (pc + 1) := by unfold Jvm.ClassFile.Decoder.instr; exact dq_b _ _ (dq_u1 hw h hp)
  exact dq_run A rfl
theorem dq145 {c : ByteArray} {b : Nat} {xs : List Nat} (hw : dq_w c b xs = true) (j : Nat) {pc : Nat} {r : List Nat} (h : xs.drop j = 145 :: r) (hp : pc = b + j) : decode c pc = .ok (.i2b, 1) := by
  have A : Jvm.ClassFile.Decoder.instr pc c pc = (pure (Jvm.ClassFile.Instr.i2b) : Jvm.ClassFile.Decoder Jvm.ClassFile.Instr) c (pc + 1) := by unfold Jvm.ClassFile.Decoder.instr; exact dq_b _ _ (dq_u1 hw h hp)
  exact dq_run A rfl
theorem dq146 {c : ByteArray} {b : Nat} {xs : List Nat} (hw : dq_w c b xs = true) (j : Nat) {pc : Nat} {r : List Nat} (h : xs.drop j = 146 :: r) (hp : pc = b + j) : decode c pc = .ok (.i2c, 1) := by
  have A : Jvm.ClassFile.Decoder.instr pc c pc = (pure (Jvm.ClassFile.Instr.i2c) : Jvm.ClassFile.Decoder Jvm.ClassFile.Instr) c (pc + 1) := by unfold Jvm.ClassFile.Decoder.instr; exact dq_b _ _ (dq_u1 hw h hp)
  exact dq_run A rfl
theorem dq147 {c : ByteArray} {b : Nat} {xs : List Nat} (hw : dq_w c b xs = true) (j : Nat) {pc : Nat} {r : List Nat} (h : xs.drop j = 147 :: r) (hp : pc = b + j) : decode c pc = .ok (.i2s, 1) := by
  have A : Jvm.ClassFile.Decoder.instr pc c pc = (pure (Jvm.ClassFile.Instr.i2s) : Jvm.ClassFile.Decoder Jvm.ClassFile.Instr) c (pc + 1) := by unfold Jvm.ClassFile.Decoder.instr; exact dq_b _ _ (dq_u1 hw h hp)
  exact dq_run A rfl
theorem dq148 {c : ByteArray} {b : Nat} {xs : List Nat} (hw : dq_w c b xs = true) (j : Nat) {pc : Nat} {r : List Nat} (h : xs.drop j = 148 :: r) (hp : pc = b + j) : decode c pc = .ok (.lcmp, 1) := by
  have A : Jvm.ClassFile.Decoder.instr pc c pc = (pure (Jvm.ClassFile.Instr.lcmp) : Jvm.ClassFile.Decoder Jvm.ClassFile.Instr) c (pc + 1) := by unfold Jvm.ClassFile.Decoder.instr; exact dq_b _ _ (dq_u1 hw h hp)
  exact dq_run A rfl
theorem dq153 {c : ByteArray} {b : Nat} {xs : List Nat} (hw : dq_w c b xs = true) (j : Nat) {pc : Nat} {r : List Nat} {v w : Nat} {n : Int} (h : xs.drop j = 153 :: v :: w :: r) (hp : pc = b + j) (hn : Jvm.ClassFile.Reader.signed 16 (v * 256 + w) = n) : decode c pc = .ok (.ifCond .eq n, 3) := by
  subst hn
  have A : Jvm.ClassFile.Decoder.instr pc c pc = (Jvm.ClassFile.Reader.s2 >>= fun x => pure (Jvm.ClassFile.Instr.ifCond .eq x) : Jvm.ClassFile.Decoder Jvm.ClassFile.Instr) c (pc + 1) := by unfold Jvm.ClassFile.Decoder.instr; exact dq_b _ _ (dq_u1 hw h hp)
  exact dq_run (A.trans (dq_b _ _ (dq_m _ _ (dq_r2 hw h hp)))) rfl
theorem dq154 {c : ByteArray} {b : Nat} {xs : List Nat} (hw : dq_w c b xs = true) (j : Nat) {pc : Nat} {r : List Nat} {v w : Nat} {n : Int} (h : xs.drop j = 154 :: v :: w :: r) (hp : pc = b + j) (hn : Jvm.ClassFile.Reader.signed 16 (v * 256 + w) = n) : decode c pc = .ok (.ifCond .ne n, 3) := by
  subst hn
  have A : Jvm.ClassFile.Decoder.instr pc c pc = (Jvm.ClassFile.Reader.s2 >>= fun x => pure (Jvm.ClassFile.Instr.ifCond .ne x) : Jvm.ClassFile.Decoder Jvm.ClassFile.Instr) c (pc + 1) := by unfold Jvm.ClassFile.Decoder.instr; exact dq_b _ _ (dq_u1 hw h hp)
  exact dq_run (A.trans (dq_b _ _ (dq_m _ _ (dq_r2 hw h hp)))) rfl
theorem dq155 {c : ByteArray} {b : Nat} {xs : List Nat} (hw : dq_w c b xs = true) (j : Nat) {pc : Nat} {r : List Nat} {v w : Nat} {n : Int} (h : xs.drop j = 155 :: v :: w :: r) (hp : pc = b + j) (hn : Jvm.ClassFile.Reader.signed 16 (v * 256 + w) = n) : decode c pc = .ok (.ifCond .lt n, 3) := by
  subst hn
  have A : Jvm.ClassFile.Decoder.instr pc c pc = (Jvm.ClassFile.Reader.s2 >>= fun x => pure (Jvm.ClassFile.Instr.ifCond .lt x) : Jvm.ClassFile.Decoder Jvm.ClassFile.Instr) c (pc + 1) := by unfold Jvm.ClassFile.Decoder.instr; exact dq_b _ _ (dq_u1 hw h hp)
  exact dq_run (A.trans (dq_b _ _ (dq_m _ _ (dq_r2 hw h hp)))) rfl
theorem dq156 {c : ByteArray} {b : Nat} {xs : List Nat} (hw : dq_w c b xs = true) (j : Nat) {pc : Nat} {r : List Nat} {v w : Nat} {n : Int} (h : xs.drop j = 156 :: v :: w :: r) (hp : pc = b + j) (hn : Jvm.ClassFile.Reader.signed 16 (v * 256 + w) = n) : decode c pc = .ok (.ifCond .ge n, 3) := by
  subst hn
  have A : Jvm.ClassFile.Decoder.instr pc c pc = (Jvm.ClassFile.Reader.s2 >>= fun x => pure (Jvm.ClassFile.Instr.ifCond .ge x) : Jvm.ClassFile.Decoder Jvm.ClassFile.Instr) c (pc + 1) := by unfold Jvm.ClassFile.Decoder.instr; exact dq_b _ _ (dq_u1 hw h hp)
  exact dq_run (A.trans (dq_b _ _ (dq_m _ _ (dq_r2 hw h hp)))) rfl
theorem dq157 {c : ByteArray} {b : Nat} {xs : List Nat} (hw : dq_w c b xs = true) (j : Nat) {pc : Nat} {r : List Nat} {v w : Nat} {n : Int} (h : xs.drop j = 157 :: v :: w :: r) (hp : pc = b + j) (hn : Jvm.ClassFile.Reader.signed 16 (v * 256 + w) = n) : decode c pc = .ok (.ifCond .gt n, 3) := by
  subst hn
  have A : Jvm.ClassFile.Decoder.instr pc c pc = (Jvm.ClassFile.Reader.s2 >>= fun x => pure (Jvm.ClassFile.Instr.ifCond .gt x) : Jvm.ClassFile.Decoder Jvm.ClassFile.Instr) c (pc + 1) := by unfold Jvm.ClassFile.Decoder.instr; exact dq_b _ _ (dq_u1 hw h hp)
  exact dq_run (A.trans (dq_b _ _ (dq_m _ _ (dq_r2 hw h hp)))) rfl
theorem dq158 {c : ByteArray} {b : Nat} {xs : List Nat} (hw : dq_w c b xs = true) (j : Nat) {pc : Nat} {r : List Nat} {v w : Nat} {n : Int} (h : xs.drop j = 158 :: v :: w :: r) (hp : pc = b + j) (hn : Jvm.ClassFile.Reader.signed 16 (v * 256 + w) = n) : decode c pc = .ok (.ifCond .le n, 3) := by
  subst hn
  have A : Jvm.ClassFile.Decoder.instr pc c pc = (Jvm.ClassFile.Reader.s2 >>= fun x => pure (Jvm.ClassFile.Instr.ifCond .le x) : Jvm.ClassFile.Decoder Jvm.ClassFile.Instr) c (pc + 1) := by unfold Jvm.ClassFile.Decoder.instr; exact dq_b _ _ (dq_u1 hw h hp)
  exact dq_run (A.trans (dq_b _ _ (dq_m _ _ (dq_r2 hw h hp)))) rfl
theorem dq159 {c : ByteArray} {b : Nat} {xs : List Nat} (hw : dq_w c b xs = true) (j : Nat) {pc : Nat} {r : List Nat} {v w : Nat} {n : Int} (h : xs.drop j = 159 :: v :: w :: r) (hp : pc = b + j) (hn : Jvm.ClassFile.Reader.signed 16 (v * 256 + w) = n) : decode c pc = .ok (.if_icmp .eq n, 3) := by
  subst hn
  have A : Jvm.ClassFile.Decoder.instr pc c pc = (Jvm.ClassFile.Reader.s2 >>= fun x => pure (Jvm.ClassFile.Instr.if_icmp .eq x) : Jvm.ClassFile.Decoder Jvm.ClassFile.Instr) c (pc + 1) := by unfold Jvm.ClassFile.Decoder.instr; exact dq_b _ _ (dq_u1 hw h hp)
  exact dq_run (A.trans (dq_b _ _ (dq_m _ _ (dq_r2 hw h hp)))) rfl
theorem dq16 {c : ByteArray} {b : Nat} {xs : List Nat} (hw : dq_w c b xs = true) (j : Nat) {pc : Nat} {r : List Nat} {v : Nat} {n : Int} (h : xs.drop j = 16 :: v :: r) (hp : pc = b + j) (hn : Jvm.ClassFile.Reader.signed 8 v = n) : decode c pc = .ok (.bipush n, 2) := by
  subst hn
  have A : Jvm.ClassFile.Decoder.instr pc c pc = (Jvm.ClassFile.Reader.s1 >>= fun x => pure (Jvm.ClassFile.Instr.bipush x) : Jvm.ClassFile.Decoder Jvm.ClassFile.Instr) c (pc + 1) := by unfold Jvm.ClassFile.Decoder.instr; exact dq_b _ _ (dq_u1 hw h hp)
  exact dq_run (A.trans (dq_b _ _ (dq_m _ _ (dq_r1 hw h hp)))) rfl
theorem dq160 {c : ByteArray} {b : Nat} {xs : List Nat} (hw : dq_w c b xs = true) (j : Nat) {pc : Nat} {r : List Nat} {v w : Nat} {n : Int} (h : xs.drop j = 160 :: v :: w :: r) (hp : pc = b + j) (hn : Jvm.ClassFile.Reader.signed 16 (v * 256 + w) = n) : decode c pc = .ok (.if_icmp .ne n, 3) := by
  subst hn
  have A : Jvm.ClassFile.Decoder.instr pc c pc = (Jvm.ClassFile.Reader.s2 >>= fun x => pure (Jvm.ClassFile.Instr.if_icmp .ne x) : Jvm.ClassFile.Decoder Jvm.ClassFile.Instr) c (pc + 1) := by unfold Jvm.ClassFile.Decoder.instr; exact dq_b _ _ (dq_u1 hw h hp)
  exact dq_run (A.trans (dq_b _ _ (dq_m _ _ (dq_r2 hw h hp)))) rfl
theorem dq161 {c : ByteArray} {b : Nat} {xs : List Nat} (hw : dq_w c b xs = true) (j : Nat) {pc : Nat} {r : List Nat} {v w : Nat} {n : Int} (h : xs.drop j = 161 :: v :: w :: r) (hp : pc = b + j) (hn : Jvm.ClassFile.Reader.signed 16 (v * 256 + w) = n) : decode c pc = .ok (.if_icmp .lt n, 3) := by
  subst hn
  have A : Jvm.ClassFile.Decoder.instr pc c pc = (Jvm.ClassFile.Reader.s2 >>= fun x => pure (Jvm.ClassFile.Instr.if_icmp .lt x) : Jvm.ClassFile.Decoder Jvm.ClassFile.Instr) c (pc + 1) := by unfold Jvm.ClassFile.Decoder.instr; exact dq_b _ _ (dq_u1 hw h hp)
  exact dq_run (A.trans (dq_b _ _ (dq_m _ _ (dq_r2 hw h hp)))) rfl
theorem dq162 {c : ByteArray} {b : Nat} {xs : List Nat} (hw : dq_w c b xs = true) (j : Nat) {pc : Nat} {r : List Nat} {v w : Nat} {n : Int} (h : xs.drop j = 162 :: v :: w :: r) (hp : pc = b + j) (hn : Jvm.ClassFile.Reader.signed 16 (v * 256 + w) = n) : decode c pc = .ok (.if_icmp .ge n, 3) := by
  subst hn
  have A : Jvm.ClassFile.Decoder.instr pc c pc = (Jvm.ClassFile.Reader.s2 >>= fun x => pure (Jvm.ClassFile.Instr.if_icmp .ge x) : Jvm.ClassFile.Decoder Jvm.ClassFile.Instr) c (pc + 1) := by unfold Jvm.ClassFile.Decoder.instr; exact dq_b _ _ (dq_u1 hw h hp)
  exact dq_run (A.trans (dq_b _ _ (dq_m _ _ (dq_r2 hw h hp)))) rfl
theorem dq163 {c : ByteArray} {b : Nat} {xs : List Nat} (hw : dq_w c b xs = true) (j : Nat) {pc : Nat} {r : List Nat} {v w : Nat} {n : Int} (h : xs.drop j = 163 :: v :: w :: r) (hp : pc = b + j) (hn : Jvm.ClassFile.Reader.signed 16 (v * 256 + w) = n) : decode c pc = .ok (.if_icmp .gt n, 3) := by
  subst hn
  have A : Jvm.ClassFile.Decoder.instr pc c pc = (Jvm.ClassFile.Reader.s2 >>= fun x => pure (Jvm.ClassFile.Instr.if_icmp .gt x) : Jvm.ClassFile.Decoder Jvm.ClassFile.Instr) c (pc + 1) := by unfold Jvm.ClassFile.Decoder.instr; exact dq_b _ _ (dq_u1 hw h hp)
  exact dq_run (A.trans (dq_b _ _ (dq_m _ _ (dq_r2 hw h hp)))) rfl
theorem dq164 {c : ByteArray} {b : Nat} {xs : List Nat} (hw : dq_w c b xs = true) (j : Nat) {pc : Nat} {r : List Nat} {v w : Nat} {n : Int} (h : xs.drop j = 164 :: v :: w :: r) (hp : pc = b + j) (hn : Jvm.ClassFile.Reader.signed 16 (v * 256 + w) = n) : decode c pc = .ok (.if_icmp .le n, 3) := by
  subst hn
  have A : Jvm.ClassFile.Decoder.instr pc c pc = (Jvm.ClassFile.Reader.s2 >>= fun x => pure (Jvm.ClassFile.Instr.if_icmp .le x) : Jvm.ClassFile.Decoder Jvm.ClassFile.Instr) c (pc + 1) := by unfold Jvm.ClassFile.Decoder.instr; exact dq_b _ _ (dq_u1 hw h hp)
  exact dq_run (A.trans (dq_b _ _ (dq_m _ _ (dq_r2 hw h hp)))) rfl
theorem dq167 {c : ByteArray} {b : Nat} {xs : List Nat} (hw : dq_w c b xs = true) (j : Nat) {pc : Nat} {r : List Nat} {v w : Nat} {n : Int} (h : xs.drop j = 167 :: v :: w :: r) (hp : pc = b + j) (hn : Jvm.ClassFile.Reader.signed 16 (v * 256 + w) = n) : decode c pc = .ok (.goto n, 3) := by
  subst hn
  have A : Jvm.ClassFile.Decoder.instr pc c pc = (Jvm.ClassFile.Reader.s2 >>= fun x => pure (Jvm.ClassFile.Instr.goto x) : Jvm.ClassFile.Decoder Jvm.ClassFile.Instr) c (pc + 1) := by unfold Jvm.ClassFile.Decoder.instr; exact dq_b _ _ (dq_u1 hw h hp)
  exact dq_run (A.trans (dq_b _ _ (dq_m _ _ (dq_r2 hw h hp)))) rfl
theorem dq17 {c : ByteArray} {b : Nat} {xs : List Nat} (hw : dq_w c b xs = true) (j : Nat) {pc : Nat} {r : List Nat} {v w : Nat} {n : Int} (h : xs.drop j = 17 :: v :: w :: r) (hp : pc = b + j) (hn : Jvm.ClassFile.Reader.signed 16 (v * 256 + w) = n) : decode c pc = .ok (.sipush n, 3) := by
  subst hn
  have A : Jvm.ClassFile.Decoder.instr pc c pc = (Jvm.ClassFile.Reader.s2 >>= fun x => pure (Jvm.ClassFile.Instr.sipush x) : Jvm.ClassFile.Decoder Jvm.ClassFile.Instr) c (pc + 1) := by unfold Jvm.ClassFile.Decoder.instr; exact dq_b _ _ (dq_u1 hw h hp)
  exact dq_run (A.trans (dq_b _ _ (dq_m _ _ (dq_r2 hw h hp)))) rfl
theorem dq172 {c : ByteArray} {b : Nat} {xs : List Nat} (hw : dq_w c b xs = true) (j : Nat) {pc : Nat} {r : List Nat} (h : xs.drop j = 172 :: r) (hp : pc = b + j) : decode c pc = .ok (.ireturn, 1) := by
  have A : Jvm.ClassFile.Decoder.instr pc c pc = (pure (Jvm.ClassFile.Instr.ireturn) : Jvm.ClassFile.Decoder Jvm.ClassFile.Instr) c (pc + 1) := by unfold Jvm.ClassFile.Decoder.instr; exact dq_b _ _ (dq_u1 hw h hp)
  exact dq_run A rfl
theorem dq177 {c : ByteArray} {b : Nat} {xs : List Nat} (hw : dq_w c b xs = true) (j : Nat) {pc : Nat} {r : List Nat} (h : xs.drop j = 177 :: r) (hp : pc = b + j) : decode c pc = .ok (.return_, 1) := by
  have A : Jvm.ClassFile.Decoder.instr pc c pc = (pure (Jvm.ClassFile.Instr.return_) : Jvm.ClassFile.Decoder Jvm.ClassFile.Instr) c (pc + 1) := by unfold Jvm.ClassFile.Decoder.instr; exact dq_b _ _ (dq_u1 hw h hp)
  exact dq_run A rfl
theorem dq18 {c : ByteArray} {b : Nat} {xs : List Nat} (hw : dq_w c b xs = true) (j : Nat) {pc : Nat} {r : List Nat} {v : Nat} (h : xs.drop j = 18 :: v :: r) (hp : pc = b + j) : decode c pc = .ok (.ldc v, 2) := by
  have A : Jvm.ClassFile.Decoder.instr pc c pc = (Jvm.ClassFile.Reader.u1 >>= fun x => pure (Jvm.ClassFile.Instr.ldc x) : Jvm.ClassFile.Decoder Jvm.ClassFile.Instr) c (pc + 1) := by unfold Jvm.ClassFile.Decoder.instr; exact dq_b _ _ (dq_u1 hw h hp)
  exact dq_run (A.trans (dq_b _ _ (dq_r1 hw h hp))) rfl
theorem dq180 {c : ByteArray} {b : Nat} {xs : List Nat} (hw : dq_w c b xs = true) (j : Nat) {pc : Nat} {r : List Nat} {v w n : Nat} (h : xs.drop j = 180 :: v :: w :: r) (hp : pc = b + j) (hn : v * 256 + w = n) : decode c pc = .ok (.getfield n, 3) := by
  subst hn
  have A : Jvm.ClassFile.Decoder.instr pc c pc = (Jvm.ClassFile.Reader.u2 >>= fun x => pure (Jvm.ClassFile.Instr.getfield x) : Jvm.ClassFile.Decoder Jvm.ClassFile.Instr) c (pc + 1) := by unfold Jvm.ClassFile.Decoder.instr; exact dq_b _ _ (dq_u1 hw h hp)
  exact dq_run (A.trans (dq_b _ _ (dq_r2 hw h hp))) rfl
theorem dq181 {c : ByteArray} {b : Nat} {xs : List Nat} (hw : dq_w c b xs = true) (j : Nat) {pc : Nat} {r : List Nat} {v w n : Nat} (h : xs.drop j = 181 :: v :: w :: r) (hp : pc = b + j) (hn : v * 256 + w = n) : decode c pc = .ok (.putfield n, 3) := by
  subst hn
  have A : Jvm.ClassFile.Decoder.instr pc c pc = (Jvm.ClassFile.Reader.u2 >>= fun x => pure (Jvm.ClassFile.Instr.putfield x) : Jvm.ClassFile.Decoder Jvm.ClassFile.Instr) c (pc + 1) := by unfold Jvm.ClassFile.Decoder.instr; exact dq_b _ _ (dq_u1 hw h hp)
  exact dq_run (A.trans (dq_b _ _ (dq_r2 hw h hp))) rfl
theorem dq182 {c : ByteArray} {b : Nat} {xs : List Nat} (hw : dq_w c b xs = true) (j : Nat) {pc : Nat} {r : List Nat} {v w n : Nat} (h : xs.drop j = 182 :: v :: w :: r) (hp : pc = b + j) (hn : v * 256 + w = n) : decode c pc = .ok (.invokevirtual n, 3) := by
  subst hn
  have A : Jvm.ClassFile.Decoder.instr pc c pc = (Jvm.ClassFile.Reader.u2 >>= fun x => pure (Jvm.ClassFile.Instr.invokevirtual x) : Jvm.ClassFile.Decoder Jvm.ClassFile.Instr) c (pc + 1) := by unfold Jvm.ClassFile.Decoder.instr; exact dq_b _ _ (dq_u1 hw h hp)
  exact dq_run (A.trans (dq_b _ _ (dq_r2 hw h hp))) rfl
theorem dq183 {c : ByteArray} {b : Nat} {xs : List Nat} (hw : dq_w c b xs = true) (j : Nat) {pc : Nat} {r : List Nat} {v w n : Nat} (h : xs.drop j = 183 :: v :: w :: r) (hp : pc = b + j) (hn : v * 256 + w = n) : decode c pc = .ok (.invokespecial n, 3) := by
  subst hn
  have A : Jvm.ClassFile.Decoder.instr pc c pc = (Jvm.ClassFile.Reader.u2 >>= fun x => pure (Jvm.ClassFile.Instr.invokespecial x) : Jvm.ClassFile.Decoder Jvm.ClassFile.Instr) c (pc + 1) := by unfold Jvm.ClassFile.Decoder.instr; exact dq_b _ _ (dq_u1 hw h hp)
  exact dq_run (A.trans (dq_b _ _ (dq_r2 hw h hp))) rfl
theorem dq184 {c : ByteArray} {b : Nat} {xs : List Nat} (hw : dq_w c b xs = true) (j : Nat) {pc : Nat} {r : List Nat} {v w n : Nat} (h : xs.drop j = 184 :: v :: w :: r) (hp : pc = b + j) (hn : v * 256 + w = n) : decode c pc = .ok (.invokestatic n, 3) := by
  subst hn
  have A : Jvm.ClassFile.Decoder.instr pc c pc = (Jvm.ClassFile.Reader.u2 >>= fun x => pure (Jvm.ClassFile.Instr.invokestatic x) : Jvm.ClassFile.Decoder Jvm.ClassFile.Instr) c (pc + 1) := by unfold Jvm.ClassFile.Decoder.instr; exact dq_b _ _ (dq_u1 hw h hp)
  exact dq_run (A.trans (dq_b _ _ (dq_r2 hw h hp))) rfl
theorem dq187 {c : ByteArray} {b : Nat} {xs : List Nat} (hw : dq_w c b xs = true) (j : Nat) {pc : Nat} {r : List Nat} {v w n : Nat} (h : xs.drop j = 187 :: v :: w :: r) (hp : pc = b + j) (hn : v * 256 + w = n) : decode c pc = .ok (.new n, 3) := by
  subst hn
  have A : Jvm.ClassFile.Decoder.instr pc c pc = (Jvm.ClassFile.Reader.u2 >>= fun x => pure (Jvm.ClassFile.Instr.new x) : Jvm.ClassFile.Decoder Jvm.ClassFile.Instr) c (pc + 1) := by unfold Jvm.ClassFile.Decoder.instr; exact dq_b _ _ (dq_u1 hw h hp)
  exact dq_run (A.trans (dq_b _ _ (dq_r2 hw h hp))) rfl
theorem dq188_10 {c : ByteArray} {b : Nat} {xs : List Nat} (hw : dq_w c b xs = true) (j : Nat) {pc : Nat} {r : List Nat} (h : xs.drop j = 188 :: 10 :: r) (hp : pc = b + j) : decode c pc = .ok (.newarray .int, 2) := by
  have A : Jvm.ClassFile.Decoder.instr pc c pc = Jvm.ClassFile.Decoder.newarray pc c (pc + 1) := by unfold Jvm.ClassFile.Decoder.instr; exact dq_b _ _ (dq_u1 hw h hp)
  have C : Jvm.ClassFile.Decoder.newarray pc c (pc + 1) = (pure (Jvm.ClassFile.Instr.newarray .int) : Jvm.ClassFile.Decoder Jvm.ClassFile.Instr) c (pc + 2) := by unfold Jvm.ClassFile.Decoder.newarray; exact dq_b _ _ (dq_r1 hw h hp)
  exact dq_run (A.trans C) rfl
theorem dq188_11 {c : ByteArray} {b : Nat} {xs : List Nat} (hw : dq_w c b xs = true) (j : Nat) {pc : Nat} {r : List Nat} (h : xs.drop j = 188 :: 11 :: r) (hp : pc = b + j) : decode c pc = .ok (.newarray .long, 2) := by
  have A : Jvm.ClassFile.Decoder.instr pc c pc = Jvm.ClassFile.Decoder.newarray pc c (pc + 1) := by unfold Jvm.ClassFile.Decoder.instr; exact dq_b _ _ (dq_u1 hw h hp)
  have C : Jvm.ClassFile.Decoder.newarray pc c (pc + 1) = (pure (Jvm.ClassFile.Instr.newarray .long) : Jvm.ClassFile.Decoder Jvm.ClassFile.Instr) c (pc + 2) := by unfold Jvm.ClassFile.Decoder.newarray; exact dq_b _ _ (dq_r1 hw h hp)
  exact dq_run (A.trans C) rfl
theorem dq188_4 {c : ByteArray} {b : Nat} {xs : List Nat} (hw : dq_w c b xs = true) (j : Nat) {pc : Nat} {r : List Nat} (h : xs.drop j = 188 :: 4 :: r) (hp : pc = b + j) : decode c pc = .ok (.newarray .boolean, 2) := by
  have A : Jvm.ClassFile.Decoder.instr pc c pc = Jvm.ClassFile.Decoder.newarray pc c (pc + 1) := by unfold Jvm.ClassFile.Decoder.instr; exact dq_b _ _ (dq_u1 hw h hp)
  have C : Jvm.ClassFile.Decoder.newarray pc c (pc + 1) = (pure (Jvm.ClassFile.Instr.newarray .boolean) : Jvm.ClassFile.Decoder Jvm.ClassFile.Instr) c (pc + 2) := by unfold Jvm.ClassFile.Decoder.newarray; exact dq_b _ _ (dq_r1 hw h hp)
  exact dq_run (A.trans C) rfl
theorem dq188_5 {c : ByteArray} {b : Nat} {xs : List Nat} (hw : dq_w c b xs = true) (j : Nat) {pc : Nat} {r : List Nat} (h : xs.drop j = 188 :: 5 :: r) (hp : pc = b + j) : decode c pc = .ok (.newarray .char, 2) := by
  have A : Jvm.ClassFile.Decoder.instr pc c pc = Jvm.ClassFile.Decoder.newarray pc c (pc + 1) := by unfold Jvm.ClassFile.Decoder.instr; exact dq_b _ _ (dq_u1 hw h hp)
  have C : Jvm.ClassFile.Decoder.newarray pc c (pc + 1) = (pure (Jvm.ClassFile.Instr.newarray .char) : Jvm.ClassFile.Decoder Jvm.ClassFile.Instr) c (pc + 2) := by unfold Jvm.ClassFile.Decoder.newarray; exact dq_b _ _ (dq_r1 hw h hp)
  exact dq_run (A.trans C) rfl
theorem dq189 {c : ByteArray} {b : Nat} {xs : List Nat} (hw : dq_w c b xs = true) (j : Nat) {pc : Nat} {r : List Nat} {v w n : Nat} (h : xs.drop j = 189 :: v :: w :: r) (hp : pc = b + j) (hn : v * 256 + w = n) : decode c pc = .ok (.anewarray n, 3) := by
  subst hn
  have A : Jvm.ClassFile.Decoder.instr pc c pc = (Jvm.ClassFile.Reader.u2 >>= fun x => pure (Jvm.ClassFile.Instr.anewarray x) : Jvm.ClassFile.Decoder Jvm.ClassFile.Instr) c (pc + 1) := by unfold Jvm.ClassFile.Decoder.instr; exact dq_b _ _ (dq_u1 hw h hp)
  exact dq_run (A.trans (dq_b _ _ (dq_r2 hw h hp))) rfl
theorem dq19 {c : ByteArray} {b : Nat} {xs : List Nat} (hw : dq_w c b xs = true) (j : Nat) {pc : Nat} {r : List Nat} {v w n : Nat} (h : xs.drop j = 19 :: v :: w :: r) (hp : pc = b + j) (hn : v * 256 + w = n) : decode c pc = .ok (.ldc_w n, 3) := by
  subst hn
  have A : Jvm.ClassFile.Decoder.instr pc c pc = (Jvm.ClassFile.Reader.u2 >>= fun x => pure (Jvm.ClassFile.Instr.ldc_w x) : Jvm.ClassFile.Decoder Jvm.ClassFile.Instr) c (pc + 1) := by unfold Jvm.ClassFile.Decoder.instr; exact dq_b _ _ (dq_u1 hw h hp)
  exact dq_run (A.trans (dq_b _ _ (dq_r2 hw h hp))) rfl
theorem dq190 {c : ByteArray} {b : Nat} {xs : List Nat} (hw : dq_w c b xs = true) (j : Nat) {pc : Nat} {r : List Nat} (h : xs.drop j = 190 :: r) (hp : pc = b + j) : decode c pc = .ok (.arraylength, 1) := by
  have A : Jvm.ClassFile.Decoder.instr pc c pc = (pure (Jvm.ClassFile.Instr.arraylength) : Jvm.ClassFile.Decoder Jvm.ClassFile.Instr) c (pc + 1) := by unfold Jvm.ClassFile.Decoder.instr; exact dq_b _ _ (dq_u1 hw h hp)
  exact dq_run A rfl
theorem dq191 {c : ByteArray} {b : Nat} {xs : List Nat} (hw : dq_w c b xs = true) (j : Nat) {pc : Nat} {r : List Nat} (h : xs.drop j = 191 :: r) (hp : pc = b + j) : decode c pc = .ok (.athrow, 1) := by
  have A : Jvm.ClassFile.Decoder.instr pc c pc = (pure (Jvm.ClassFile.Instr.athrow) : Jvm.ClassFile.Decoder Jvm.ClassFile.Instr) c (pc + 1) := by unfold Jvm.ClassFile.Decoder.instr; exact dq_b _ _ (dq_u1 hw h hp)
  exact dq_run A rfl
theorem dq2 {c : ByteArray} {b : Nat} {xs : List Nat} (hw : dq_w c b xs = true) (j : Nat) {pc : Nat} {r : List Nat} (h : xs.drop j = 2 :: r) (hp : pc = b + j) : decode c pc = .ok (.iconst (-1), 1) := by
  have A : Jvm.ClassFile.Decoder.instr pc c pc = (pure (Jvm.ClassFile.Instr.iconst (-1)) : Jvm.ClassFile.Decoder Jvm.ClassFile.Instr) c (pc + 1) := by unfold Jvm.ClassFile.Decoder.instr; exact dq_b _ _ (dq_u1 hw h hp)
  exact dq_run A rfl
theorem dq20 {c : ByteArray} {b : Nat} {xs : List Nat} (hw : dq_w c b xs = true) (j : Nat) {pc : Nat} {r : List Nat} {v w n : Nat} (h : xs.drop j = 20 :: v :: w :: r) (hp : pc = b + j) (hn : v * 256 + w = n) : decode c pc = .ok (.ldc2_w n, 3) := by
  subst hn
  have A : Jvm.ClassFile.Decoder.instr pc c pc = (Jvm.ClassFile.Reader.u2 >>= fun x => pure (Jvm.ClassFile.Instr.ldc2_w x) : Jvm.ClassFile.Decoder Jvm.ClassFile.Instr) c (pc + 1) := by unfold Jvm.ClassFile.Decoder.instr; exact dq_b _ _ (dq_u1 hw h hp)
  exact dq_run (A.trans (dq_b _ _ (dq_r2 hw h hp))) rfl
theorem dq21 {c : ByteArray} {b : Nat} {xs : List Nat} (hw : dq_w c b xs = true) (j : Nat) {pc : Nat} {r : List Nat} {v : Nat} (h : xs.drop j = 21 :: v :: r) (hp : pc = b + j) : decode c pc = .ok (.iload v, 2) := by
  have A : Jvm.ClassFile.Decoder.instr pc c pc = (Jvm.ClassFile.Reader.u1 >>= fun x => pure (Jvm.ClassFile.Instr.iload x) : Jvm.ClassFile.Decoder Jvm.ClassFile.Instr) c (pc + 1) := by unfold Jvm.ClassFile.Decoder.instr; exact dq_b _ _ (dq_u1 hw h hp)
  exact dq_run (A.trans (dq_b _ _ (dq_r1 hw h hp))) rfl
theorem dq22 {c : ByteArray} {b : Nat} {xs : List Nat} (hw : dq_w c b xs = true) (j : Nat) {pc : Nat} {r : List Nat} {v : Nat} (h : xs.drop j = 22 :: v :: r) (hp : pc = b + j) : decode c pc = .ok (.lload v, 2) := by
  have A : Jvm.ClassFile.Decoder.instr pc c pc = (Jvm.ClassFile.Reader.u1 >>= fun x => pure (Jvm.ClassFile.Instr.lload x) : Jvm.ClassFile.Decoder Jvm.ClassFile.Instr) c (pc + 1) := by unfold Jvm.ClassFile.Decoder.instr; exact dq_b _ _ (dq_u1 hw h hp)
  exact dq_run (A.trans (dq_b _ _ (dq_r1 hw h hp))) rfl
theorem dq25 {c : ByteArray} {b : Nat} {xs : List Nat} (hw : dq_w c b xs = true) (j : Nat) {pc : Nat} {r : List Nat} {v : Nat} (h : xs.drop j = 25 :: v :: r) (hp : pc = b + j) : decode c pc = .ok (.aload v, 2) := by
  have A : Jvm.ClassFile.Decoder.instr pc c pc = (Jvm.ClassFile.Reader.u1 >>= fun x => pure (Jvm.ClassFile.Instr.aload x) : Jvm.ClassFile.Decoder Jvm.ClassFile.Instr) c (pc + 1) := by unfold Jvm.ClassFile.Decoder.instr; exact dq_b _ _ (dq_u1 hw h hp)
  exact dq_run (A.trans (dq_b _ _ (dq_r1 hw h hp))) rfl
theorem dq26 {c : ByteArray} {b : Nat} {xs : List Nat} (hw : dq_w c b xs = true) (j : Nat) {pc : Nat} {r : List Nat} (h : xs.drop j = 26 :: r) (hp : pc = b + j) : decode c pc = .ok (.iload_n 0, 1) := by
  have A : Jvm.ClassFile.Decoder.instr pc c pc = (pure (Jvm.ClassFile.Instr.iload_n 0) : Jvm.ClassFile.Decoder Jvm.ClassFile.Instr) c (pc + 1) := by unfold Jvm.ClassFile.Decoder.instr; exact dq_b _ _ (dq_u1 hw h hp)
  exact dq_run A rfl
theorem dq27 {c : ByteArray} {b : Nat} {xs : List Nat} (hw : dq_w c b xs = true) (j : Nat) {pc : Nat} {r : List Nat} (h : xs.drop j = 27 :: r) (hp : pc = b + j) : decode c pc = .ok (.iload_n 1, 1) := by
  have A : Jvm.ClassFile.Decoder.instr pc c pc = (pure (Jvm.ClassFile.Instr.iload_n 1) : Jvm.ClassFile.Decoder Jvm.ClassFile.Instr) c (pc + 1) := by unfold Jvm.ClassFile.Decoder.instr; exact dq_b _ _ (dq_u1 hw h hp)
  exact dq_run A rfl
theorem dq28 {c : ByteArray} {b : Nat} {xs : List Nat} (hw : dq_w c b xs = true) (j : Nat) {pc : Nat} {r : List Nat} (h : xs.drop j = 28 :: r) (hp : pc = b + j) : decode c pc = .ok (.iload_n 2, 1) := by
  have A : Jvm.ClassFile.Decoder.instr pc c pc = (pure (Jvm.ClassFile.Instr.iload_n 2) : Jvm.ClassFile.Decoder Jvm.ClassFile.Instr) c (pc + 1) := by unfold Jvm.ClassFile.Decoder.instr; exact dq_b _ _ (dq_u1 hw h hp)
  exact dq_run A rfl
theorem dq29 {c : ByteArray} {b : Nat} {xs : List Nat} (hw : dq_w c b xs = true) (j : Nat) {pc : Nat} {r : List Nat} (h : xs.drop j = 29 :: r) (hp : pc = b + j) : decode c pc = .ok (.iload_n 3, 1) := by
  have A : Jvm.ClassFile.Decoder.instr pc c pc = (pure (Jvm.ClassFile.Instr.iload_n 3) : Jvm.ClassFile.Decoder Jvm.ClassFile.Instr) c (pc + 1) := by unfold Jvm.ClassFile.Decoder.instr; exact dq_b _ _ (dq_u1 hw h hp)
  exact dq_run A rfl
theorem dq3 {c : ByteArray} {b : Nat} {xs : List Nat} (hw : dq_w c b xs = true) (j : Nat) {pc : Nat} {r : List Nat} (h : xs.drop j = 3 :: r) (hp : pc = b + j) : decode c pc = .ok (.iconst 0, 1) := by
  have A : Jvm.ClassFile.Decoder.instr pc c pc = (pure (Jvm.ClassFile.Instr.iconst 0) : Jvm.ClassFile.Decoder Jvm.ClassFile.Instr) c (pc + 1) := by unfold Jvm.ClassFile.Decoder.instr; exact dq_b _ _ (dq_u1 hw h hp)
  exact dq_run A rfl
theorem dq30 {c : ByteArray} {b : Nat} {xs : List Nat} (hw : dq_w c b xs = true) (j : Nat) {pc : Nat} {r : List Nat} (h : xs.drop j = 30 :: r) (hp : pc = b + j) : decode c pc = .ok (.lload_n 0, 1) := by
  have A : Jvm.ClassFile.Decoder.instr pc c pc = (pure (Jvm.ClassFile.Instr.lload_n 0) : Jvm.ClassFile.Decoder Jvm.ClassFile.Instr) c (pc + 1) := by unfold Jvm.ClassFile.Decoder.instr; exact dq_b _ _ (dq_u1 hw h hp)
  exact dq_run A rfl
theorem dq32 {c : ByteArray} {b : Nat} {xs : List Nat} (hw : dq_w c b xs = true) (j : Nat) {pc : Nat} {r : List Nat} (h : xs.drop j = 32 :: r) (hp : pc = b + j) : decode c pc = .ok (.lload_n 2, 1) := by
  have A : Jvm.ClassFile.Decoder.instr pc c pc = (pure (Jvm.ClassFile.Instr.lload_n 2) : Jvm.ClassFile.Decoder Jvm.ClassFile.Instr) c (pc + 1) := by unfold Jvm.ClassFile.Decoder.instr; exact dq_b _ _ (dq_u1 hw h hp)
  exact dq_run A rfl
theorem dq4 {c : ByteArray} {b : Nat} {xs : List Nat} (hw : dq_w c b xs = true) (j : Nat) {pc : Nat} {r : List Nat} (h : xs.drop j = 4 :: r) (hp : pc = b + j) : decode c pc = .ok (.iconst 1, 1) := by
  have A : Jvm.ClassFile.Decoder.instr pc c pc = (pure (Jvm.ClassFile.Instr.iconst 1) : Jvm.ClassFile.Decoder Jvm.ClassFile.Instr) c (pc + 1) := by unfold Jvm.ClassFile.Decoder.instr; exact dq_b _ _ (dq_u1 hw h hp)
  exact dq_run A rfl
theorem dq42 {c : ByteArray} {b : Nat} {xs : List Nat} (hw : dq_w c b xs = true) (j : Nat) {pc : Nat} {r : List Nat} (h : xs.drop j = 42 :: r) (hp : pc = b + j) : decode c pc = .ok (.aload_n 0, 1) := by
  have A : Jvm.ClassFile.Decoder.instr pc c pc = (pure (Jvm.ClassFile.Instr.aload_n 0) : Jvm.ClassFile.Decoder Jvm.ClassFile.Instr) c (pc + 1) := by unfold Jvm.ClassFile.Decoder.instr; exact dq_b _ _ (dq_u1 hw h hp)
  exact dq_run A rfl
theorem dq43 {c : ByteArray} {b : Nat} {xs : List Nat} (hw : dq_w c b xs = true) (j : Nat) {pc : Nat} {r : List Nat} (h : xs.drop j = 43 :: r) (hp : pc = b + j) : decode c pc = .ok (.aload_n 1, 1) := by
  have A : Jvm.ClassFile.Decoder.instr pc c pc = (pure (Jvm.ClassFile.Instr.aload_n 1) : Jvm.ClassFile.Decoder Jvm.ClassFile.Instr) c (pc + 1) := by unfold Jvm.ClassFile.Decoder.instr; exact dq_b _ _ (dq_u1 hw h hp)
  exact dq_run A rfl
theorem dq44 {c : ByteArray} {b : Nat} {xs : List Nat} (hw : dq_w c b xs = true) (j : Nat) {pc : Nat} {r : List Nat} (h : xs.drop j = 44 :: r) (hp : pc = b + j) : decode c pc = .ok (.aload_n 2, 1) := by
  have A : Jvm.ClassFile.Decoder.instr pc c pc = (pure (Jvm.ClassFile.Instr.aload_n 2) : Jvm.ClassFile.Decoder Jvm.ClassFile.Instr) c (pc + 1) := by unfold Jvm.ClassFile.Decoder.instr; exact dq_b _ _ (dq_u1 hw h hp)
  exact dq_run A rfl
theorem dq45 {c : ByteArray} {b : Nat} {xs : List Nat} (hw : dq_w c b xs = true) (j : Nat) {pc : Nat} {r : List Nat} (h : xs.drop j = 45 :: r) (hp : pc = b + j) : decode c pc = .ok (.aload_n 3, 1) := by
  have A : Jvm.ClassFile.Decoder.instr pc c pc = (pure (Jvm.ClassFile.Instr.aload_n 3) : Jvm.ClassFile.Decoder Jvm.ClassFile.Instr) c (pc + 1) := by unfold Jvm.ClassFile.Decoder.instr; exact dq_b _ _ (dq_u1 hw h hp)
  exact dq_run A rfl
theorem dq46 {c : ByteArray} {b : Nat} {xs : List Nat} (hw : dq_w c b xs = true) (j : Nat) {pc : Nat} {r : List Nat} (h : xs.drop j = 46 :: r) (hp : pc = b + j) : decode c pc = .ok (.iaload, 1) := by
  have A : Jvm.ClassFile.Decoder.instr pc c pc = (pure (Jvm.ClassFile.Instr.iaload) : Jvm.ClassFile.Decoder Jvm.ClassFile.Instr) c (pc + 1) := by unfold Jvm.ClassFile.Decoder.instr; exact dq_b _ _ (dq_u1 hw h hp)
  exact dq_run A rfl
theorem dq47 {c : ByteArray} {b : Nat} {xs : List Nat} (hw : dq_w c b xs = true) (j : Nat) {pc : Nat} {r : List Nat} (h : xs.drop j = 47 :: r) (hp : pc = b + j) : decode c pc = .ok (.laload, 1) := by
  have A : Jvm.ClassFile.Decoder.instr pc c pc = (pure (Jvm.ClassFile.Instr.laload) : Jvm.ClassFile.Decoder Jvm.ClassFile.Instr) c (pc + 1) := by unfold Jvm.ClassFile.Decoder.instr; exact dq_b _ _ (dq_u1 hw h hp)
  exact dq_run A rfl
theorem dq5 {c : ByteArray} {b : Nat} {xs : List Nat} (hw : dq_w c b xs = true) (j : Nat) {pc : Nat} {r : List Nat} (h : xs.drop j = 5 :: r) (hp : pc = b + j) : decode c pc = .ok (.iconst 2, 1) := by
  have A : Jvm.ClassFile.Decoder.instr pc c pc = (pure (Jvm.ClassFile.Instr.iconst 2) : Jvm.ClassFile.Decoder Jvm.ClassFile.Instr) c (pc + 1) := by unfold Jvm.ClassFile.Decoder.instr; exact dq_b _ _ (dq_u1 hw h hp)
  exact dq_run A rfl
theorem dq50 {c : ByteArray} {b : Nat} {xs : List Nat} (hw : dq_w c b xs = true) (j : Nat) {pc : Nat} {r : List Nat} (h : xs.drop j = 50 :: r) (hp : pc = b + j) : decode c pc = .ok (.aaload, 1) := by
  have A : Jvm.ClassFile.Decoder.instr pc c pc = (pure (Jvm.ClassFile.Instr.aaload) : Jvm.ClassFile.Decoder Jvm.ClassFile.Instr) c (pc + 1) := by unfold Jvm.ClassFile.Decoder.instr; exact dq_b _ _ (dq_u1 hw h hp)
  exact dq_run A rfl
theorem dq51 {c : ByteArray} {b : Nat} {xs : List Nat} (hw : dq_w c b xs = true) (j : Nat) {pc : Nat} {r : List Nat} (h : xs.drop j = 51 :: r) (hp : pc = b + j) : decode c pc = .ok (.baload, 1) := by
  have A : Jvm.ClassFile.Decoder.instr pc c pc = (pure (Jvm.ClassFile.Instr.baload) : Jvm.ClassFile.Decoder Jvm.ClassFile.Instr) c (pc + 1) := by unfold Jvm.ClassFile.Decoder.instr; exact dq_b _ _ (dq_u1 hw h hp)
  exact dq_run A rfl
theorem dq52 {c : ByteArray} {b : Nat} {xs : List Nat} (hw : dq_w c b xs = true) (j : Nat) {pc : Nat} {r : List Nat} (h : xs.drop j = 52 :: r) (hp : pc = b + j) : decode c pc = .ok (.caload, 1) := by
  have A : Jvm.ClassFile.Decoder.instr pc c pc = (pure (Jvm.ClassFile.Instr.caload) : Jvm.ClassFile.Decoder Jvm.ClassFile.Instr) c (pc + 1) := by unfold Jvm.ClassFile.Decoder.instr; exact dq_b _ _ (dq_u1 hw h hp)
  exact dq_run A rfl
theorem dq54 {c : ByteArray} {b : Nat} {xs : List Nat} (hw : dq_w c b xs = true) (j : Nat) {pc : Nat} {r : List Nat} {v : Nat} (h : xs.drop j = 54 :: v :: r) (hp : pc = b + j) : decode c pc = .ok (.istore v, 2) := by
  have A : Jvm.ClassFile.Decoder.instr pc c pc = (Jvm.ClassFile.Reader.u1 >>= fun x => pure (Jvm.ClassFile.Instr.istore x) : Jvm.ClassFile.Decoder Jvm.ClassFile.Instr) c (pc + 1) := by unfold Jvm.ClassFile.Decoder.instr; exact dq_b _ _ (dq_u1 hw h hp)
  exact dq_run (A.trans (dq_b _ _ (dq_r1 hw h hp))) rfl
theorem dq55 {c : ByteArray} {b : Nat} {xs : List Nat} (hw : dq_w c b xs = true) (j : Nat) {pc : Nat} {r : List Nat} {v : Nat} (h : xs.drop j = 55 :: v :: r) (hp : pc = b + j) : decode c pc = .ok (.lstore v, 2) := by
  have A : Jvm.ClassFile.Decoder.instr pc c pc = (Jvm.ClassFile.Reader.u1 >>= fun x => pure (Jvm.ClassFile.Instr.lstore x) : Jvm.ClassFile.Decoder Jvm.ClassFile.Instr) c (pc + 1) := by unfold Jvm.ClassFile.Decoder.instr; exact dq_b _ _ (dq_u1 hw h hp)
  exact dq_run (A.trans (dq_b _ _ (dq_r1 hw h hp))) rfl
theorem dq58 {c : ByteArray} {b : Nat} {xs : List Nat} (hw : dq_w c b xs = true) (j : Nat) {pc : Nat} {r : List Nat} {v : Nat} (h : xs.drop j = 58 :: v :: r) (hp : pc = b + j) : decode c pc = .ok (.astore v, 2) := by
  have A : Jvm.ClassFile.Decoder.instr pc c pc = (Jvm.ClassFile.Reader.u1 >>= fun x => pure (Jvm.ClassFile.Instr.astore x) : Jvm.ClassFile.Decoder Jvm.ClassFile.Instr) c (pc + 1) := by unfold Jvm.ClassFile.Decoder.instr; exact dq_b _ _ (dq_u1 hw h hp)
  exact dq_run (A.trans (dq_b _ _ (dq_r1 hw h hp))) rfl
theorem dq59 {c : ByteArray} {b : Nat} {xs : List Nat} (hw : dq_w c b xs = true) (j : Nat) {pc : Nat} {r : List Nat} (h : xs.drop j = 59 :: r) (hp : pc = b + j) : decode c pc = .ok (.istore_n 0, 1) := by
  have A : Jvm.ClassFile.Decoder.instr pc c pc = (pure (Jvm.ClassFile.Instr.istore_n 0) : Jvm.ClassFile.Decoder Jvm.ClassFile.Instr) c (pc + 1) := by unfold Jvm.ClassFile.Decoder.instr; exact dq_b _ _ (dq_u1 hw h hp)
  exact dq_run A rfl
theorem dq6 {c : ByteArray} {b : Nat} {xs : List Nat} (hw : dq_w c b xs = true) (j : Nat) {pc : Nat} {r : List Nat} (h : xs.drop j = 6 :: r) (hp : pc = b + j) : decode c pc = .ok (.iconst 3, 1) := by
  have A : Jvm.ClassFile.Decoder.instr pc c pc = (pure (Jvm.ClassFile.Instr.iconst 3) : Jvm.ClassFile.Decoder Jvm.ClassFile.Instr) c (pc + 1) := by unfold Jvm.ClassFile.Decoder.instr; exact dq_b _ _ (dq_u1 hw h hp)
  exact dq_run A rfl
theorem dq60 {c : ByteArray} {b : Nat} {xs : List Nat} (hw : dq_w c b xs = true) (j : Nat) {pc : Nat} {r : List Nat} (h : xs.drop j = 60 :: r) (hp : pc = b + j) : decode c pc = .ok (.istore_n 1, 1) := by
  have A : Jvm.ClassFile.Decoder.instr pc c pc = (pure (Jvm.ClassFile.Instr.istore_n 1) : Jvm.ClassFile.Decoder Jvm.ClassFile.Instr) c (pc + 1) := by unfold Jvm.ClassFile.Decoder.instr; exact dq_b _ _ (dq_u1 hw h hp)
  exact dq_run A rfl
theorem dq61 {c : ByteArray} {b : Nat} {xs : List Nat} (hw : dq_w c b xs = true) (j : Nat) {pc : Nat} {r : List Nat} (h : xs.drop j = 61 :: r) (hp : pc = b + j) : decode c pc = .ok (.istore_n 2, 1) := by
  have A : Jvm.ClassFile.Decoder.instr pc c pc = (pure (Jvm.ClassFile.Instr.istore_n 2) : Jvm.ClassFile.Decoder Jvm.ClassFile.Instr) c (pc + 1) := by unfold Jvm.ClassFile.Decoder.instr; exact dq_b _ _ (dq_u1 hw h hp)
  exact dq_run A rfl
theorem dq62 {c : ByteArray} {b : Nat} {xs : List Nat} (hw : dq_w c b xs = true) (j : Nat) {pc : Nat} {r : List Nat} (h : xs.drop j = 62 :: r) (hp : pc = b + j) : decode c pc = .ok (.istore_n 3, 1) := by
  have A : Jvm.ClassFile.Decoder.instr pc c pc = (pure (Jvm.ClassFile.Instr.istore_n 3) : Jvm.ClassFile.Decoder Jvm.ClassFile.Instr) c (pc + 1) := by unfold Jvm.ClassFile.Decoder.instr; exact dq_b _ _ (dq_u1 hw h hp)
  exact dq_run A rfl
theorem dq7 {c : ByteArray} {b : Nat} {xs : List Nat} (hw : dq_w c b xs = true) (j : Nat) {pc : Nat} {r : List Nat} (h : xs.drop j = 7 :: r) (hp : pc = b + j) : decode c pc = .ok (.iconst 4, 1) := by
  have A : Jvm.ClassFile.Decoder.instr pc c pc = (pure (Jvm.ClassFile.Instr.iconst 4) : Jvm.ClassFile.Decoder Jvm.ClassFile.Instr) c (pc + 1) := by unfold Jvm.ClassFile.Decoder.instr; exact dq_b _ _ (dq_u1 hw h hp)
  exact dq_run A rfl
theorem dq76 {c : ByteArray} {b : Nat} {xs : List Nat} (hw : dq_w c b xs = true) (j : Nat) {pc : Nat} {r : List Nat} (h : xs.drop j = 76 :: r) (hp : pc = b + j) : decode c pc = .ok (.astore_n 1, 1) := by
  have A : Jvm.ClassFile.Decoder.instr pc c pc = (pure (Jvm.ClassFile.Instr.astore_n 1) : Jvm.ClassFile.Decoder Jvm.ClassFile.Instr) c (pc + 1) := by unfold Jvm.ClassFile.Decoder.instr; exact dq_b _ _ (dq_u1 hw h hp)
  exact dq_run A rfl
theorem dq77 {c : ByteArray} {b : Nat} {xs : List Nat} (hw : dq_w c b xs = true) (j : Nat) {pc : Nat} {r : List Nat} (h : xs.drop j = 77 :: r) (hp : pc = b + j) : decode c pc = .ok (.astore_n 2, 1) := by
  have A : Jvm.ClassFile.Decoder.instr pc c pc = (pure (Jvm.ClassFile.Instr.astore_n 2) : Jvm.ClassFile.Decoder Jvm.ClassFile.Instr) c (pc + 1) := by unfold Jvm.ClassFile.Decoder.instr; exact dq_b _ _ (dq_u1 hw h hp)
  exact dq_run A rfl
theorem dq78 {c : ByteArray} {b : Nat} {xs : List Nat} (hw : dq_w c b xs = true) (j : Nat) {pc : Nat} {r : List Nat} (h : xs.drop j = 78 :: r) (hp : pc = b + j) : decode c pc = .ok (.astore_n 3, 1) := by
  have A : Jvm.ClassFile.Decoder.instr pc c pc = (pure (Jvm.ClassFile.Instr.astore_n 3) : Jvm.ClassFile.Decoder Jvm.ClassFile.Instr) c (pc + 1) := by unfold Jvm.ClassFile.Decoder.instr; exact dq_b _ _ (dq_u1 hw h hp)
  exact dq_run A rfl
theorem dq79 {c : ByteArray} {b : Nat} {xs : List Nat} (hw : dq_w c b xs = true) (j : Nat) {pc : Nat} {r : List Nat} (h : xs.drop j = 79 :: r) (hp : pc = b + j) : decode c pc = .ok (.iastore, 1) := by
  have A : Jvm.ClassFile.Decoder.instr pc c pc = (pure (Jvm.ClassFile.Instr.iastore) : Jvm.ClassFile.Decoder Jvm.ClassFile.Instr) c (pc + 1) := by unfold Jvm.ClassFile.Decoder.instr; exact dq_b _ _ (dq_u1 hw h hp)
  exact dq_run A rfl
theorem dq8 {c : ByteArray} {b : Nat} {xs : List Nat} (hw : dq_w c b xs = true) (j : Nat) {pc : Nat} {r : List Nat} (h : xs.drop j = 8 :: r) (hp : pc = b + j) : decode c pc = .ok (.iconst 5, 1) := by
  have A : Jvm.ClassFile.Decoder.instr pc c pc = (pure (Jvm.ClassFile.Instr.iconst 5) : Jvm.ClassFile.Decoder Jvm.ClassFile.Instr) c (pc + 1) := by unfold Jvm.ClassFile.Decoder.instr; exact dq_b _ _ (dq_u1 hw h hp)
  exact dq_run A rfl
theorem dq80 {c : ByteArray} {b : Nat} {xs : List Nat} (hw : dq_w c b xs = true) (j : Nat) {pc : Nat} {r : List Nat} (h : xs.drop j = 80 :: r) (hp : pc = b + j) : decode c pc = .ok (.lastore, 1) := by
  have A : Jvm.ClassFile.Decoder.instr pc c pc = (pure (Jvm.ClassFile.Instr.lastore) : Jvm.ClassFile.Decoder Jvm.ClassFile.Instr) c (pc + 1) := by unfold Jvm.ClassFile.Decoder.instr; exact dq_b _ _ (dq_u1 hw h hp)
  exact dq_run A rfl
theorem dq83 {c : ByteArray} {b : Nat} {xs : List Nat} (hw : dq_w c b xs = true) (j : Nat) {pc : Nat} {r : List Nat} (h : xs.drop j = 83 :: r) (hp : pc = b + j) : decode c pc = .ok (.aastore, 1) := by
  have A : Jvm.ClassFile.Decoder.instr pc c pc = (pure (Jvm.ClassFile.Instr.aastore) : Jvm.ClassFile.Decoder Jvm.ClassFile.Instr) c (pc + 1) := by unfold Jvm.ClassFile.Decoder.instr; exact dq_b _ _ (dq_u1 hw h hp)
  exact dq_run A rfl
theorem dq84 {c : ByteArray} {b : Nat} {xs : List Nat} (hw : dq_w c b xs = true) (j : Nat) {pc : Nat} {r : List Nat} (h : xs.drop j = 84 :: r) (hp : pc = b + j) : decode c pc = .ok (.bastore, 1) := by
  have A : Jvm.ClassFile.Decoder.instr pc c pc = (pure (Jvm.ClassFile.Instr.bastore) : Jvm.ClassFile.Decoder Jvm.ClassFile.Instr) c (pc + 1) := by unfold Jvm.ClassFile.Decoder.instr; exact dq_b _ _ (dq_u1 hw h hp)
  exact dq_run A rfl
theorem dq85 {c : ByteArray} {b : Nat} {xs : List Nat} (hw : dq_w c b xs = true) (j : Nat) {pc : Nat} {r : List Nat} (h : xs.drop j = 85 :: r) (hp : pc = b + j) : decode c pc = .ok (.castore, 1) := by
  have A : Jvm.ClassFile.Decoder.instr pc c pc = (pure (Jvm.ClassFile.Instr.castore) : Jvm.ClassFile.Decoder Jvm.ClassFile.Instr) c (pc + 1) := by unfold Jvm.ClassFile.Decoder.instr; exact dq_b _ _ (dq_u1 hw h hp)
  exact dq_run A rfl
theorem dq87 {c : ByteArray} {b : Nat} {xs : List Nat} (hw : dq_w c b xs = true) (j : Nat) {pc : Nat} {r : List Nat} (h : xs.drop j = 87 :: r) (hp : pc = b + j) : decode c pc = .ok (.pop, 1) := by
  have A : Jvm.ClassFile.Decoder.instr pc c pc = (pure (Jvm.ClassFile.Instr.pop) : Jvm.ClassFile.Decoder Jvm.ClassFile.Instr) c (pc + 1) := by unfold Jvm.ClassFile.Decoder.instr; exact dq_b _ _ (dq_u1 hw h hp)
  exact dq_run A rfl
theorem dq89 {c : ByteArray} {b : Nat} {xs : List Nat} (hw : dq_w c b xs = true) (j : Nat) {pc : Nat} {r : List Nat} (h : xs.drop j = 89 :: r) (hp : pc = b + j) : decode c pc = .ok (.dup, 1) := by
  have A : Jvm.ClassFile.Decoder.instr pc c pc = (pure (Jvm.ClassFile.Instr.dup) : Jvm.ClassFile.Decoder Jvm.ClassFile.Instr) c (pc + 1) := by unfold Jvm.ClassFile.Decoder.instr; exact dq_b _ _ (dq_u1 hw h hp)
  exact dq_run A rfl
theorem dq9 {c : ByteArray} {b : Nat} {xs : List Nat} (hw : dq_w c b xs = true) (j : Nat) {pc : Nat} {r : List Nat} (h : xs.drop j = 9 :: r) (hp : pc = b + j) : decode c pc = .ok (.lconst 0, 1) := by
  have A : Jvm.ClassFile.Decoder.instr pc c pc = (pure (Jvm.ClassFile.Instr.lconst 0) : Jvm.ClassFile.Decoder Jvm.ClassFile.Instr) c (pc + 1) := by unfold Jvm.ClassFile.Decoder.instr; exact dq_b _ _ (dq_u1 hw h hp)
  exact dq_run A rfl
theorem dq92 {c : ByteArray} {b : Nat} {xs : List Nat} (hw : dq_w c b xs = true) (j : Nat) {pc : Nat} {r : List Nat} (h : xs.drop j = 92 :: r) (hp : pc = b + j) : decode c pc = .ok (.dup2, 1) := by
  have A : Jvm.ClassFile.Decoder.instr pc c pc = (pure (Jvm.ClassFile.Instr.dup2) : Jvm.ClassFile.Decoder Jvm.ClassFile.Instr) c (pc + 1) := by unfold Jvm.ClassFile.Decoder.instr; exact dq_b _ _ (dq_u1 hw h hp)
  exact dq_run A rfl
theorem dq96 {c : ByteArray} {b : Nat} {xs : List Nat} (hw : dq_w c b xs = true) (j : Nat) {pc : Nat} {r : List Nat} (h : xs.drop j = 96 :: r) (hp : pc = b + j) : decode c pc = .ok (.iadd, 1) := by
  have A : Jvm.ClassFile.Decoder.instr pc c pc = (pure (Jvm.ClassFile.Instr.iadd) : Jvm.ClassFile.Decoder Jvm.ClassFile.Instr) c (pc + 1) := by unfold Jvm.ClassFile.Decoder.instr; exact dq_b _ _ (dq_u1 hw h hp)
  exact dq_run A rfl
