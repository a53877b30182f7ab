/-! THE SMALL MACHINE: a heap is kinds, ints, longs and references, by a cell's number (0, 1, ..: the order in which they are made) and the place in it; cell k lies at ba + k. -/
abbrev sm_K : Type := List (Nat × Nat)
abbrev sm_H : Type := sm_K × (Nat → Nat → Int32) × (Nat → Nat → Int64) × (Nat → Nat → Option Nat)
def sm_u {α : Type} (g : Nat → Nat → α) (a k : Nat) (v : α) : Nat → Nat → α := fun c j => cond (Nat.beq c a) (cond (Nat.beq j k) v (g c j)) (g c j)
/-- a cell that is new: all places hold z -/
def sm_z {α : Type} (g : Nat → Nat → α) (a : Nat) (z : α) : Nat → Nat → α := fun c j => cond (Nat.beq c a) z (g c j)
theorem sm_u_cell {α : Type} {g : Nat → Nat → α} {a k c j : Nat} {v : α} (h : c ≠ a) : sm_u g a k v c j = g c j := by
  have e : Nat.beq c a = false := by
    cases hb : Nat.beq c a with
    | false => rfl
    | true => exact absurd (Nat.eq_of_beq_eq_true hb) h
  show cond (Nat.beq c a) _ _ = _
  rw [e]; rfl
theorem sm_u_row {α : Type} {g : Nat → Nat → α} {a k : Nat} {v : α} : sm_u g a k v a = fun j => if j = k then v else g a j := by
  funext j
  show cond (Nat.beq a a) (cond (Nat.beq j k) v (g a j)) _ = _
  rw [Nat.beq_refl]
  show cond (Nat.beq j k) v (g a j) = _
  cases hb : Nat.beq j k with
  | true => rw [if_pos (Nat.eq_of_beq_eq_true hb)]; rfl
  | false => rw [if_neg (fun e => by rw [e, Nat.beq_refl] at hb; cases hb)]; rfl
theorem sm_u_rows {α : Type} {g : Nat → Nat → α} {a k c : Nat} {v : α} (h : c ≠ a) : sm_u g a k v c = g c := by
  funext j; exact sm_u_cell h
theorem sm_z_rows {α : Type} {g : Nat → Nat → α} {a c : Nat} {z : α} (h : c ≠ a) : sm_z g a z c = g c := by
  funext j
  have e : Nat.beq c a = false := by
    cases hb : Nat.beq c a with
    | false => rfl
    | true => exact absurd (Nat.eq_of_beq_eq_true hb) h
  show cond (Nat.beq c a) _ _ = _
  rw [e]; rfl
theorem sm_z_row {α : Type} {g : Nat → Nat → α} {a : Nat} {z : α} : sm_z g a z a = fun _ => z := by
  funext j
  show cond (Nat.beq a a) _ _ = _
  rw [Nat.beq_refl]; rfl
/-- a value as it stands on the real stack: cell k is the address ba + k; retAddr 1 stands for the script at b -/
def sm_v (b ba : Nat) (v : Value) : Value := match v with
  | .ref k => .ref (ba + k)
  | .retAddr _ => .ref b
  | v => v
theorem sm_v_cat (b ba : Nat) (v : Value) : (sm_v b ba v).category = v.category := by cases v <;> rfl
def sm_vs (b ba : Nat) (st : List Value) : List Value := st.map (sm_v b ba)
theorem sm_vs_cons (b ba : Nat) (v : Value) (st : List Value) : sm_vs b ba (v :: st) = sm_v b ba v :: sm_vs b ba st := rfl
theorem sm_vs_sum (b ba : Nat) (st : List Value) : ((sm_vs b ba st).map fun v => v.category).sum = (st.map fun v => v.category).sum := by
  unfold sm_vs
  rw [List.map_map]
  congr 1
  exact List.map_congr_left (fun v _ => sm_v_cat b ba v)
def sm_rf (o : Option Nat) : Value := match o with
  | some q => .ref q
  | none => .null
theorem sm_v_rf (b ba : Nat) (o : Option Nat) : sm_v b ba (sm_rf o) = va_rf (o.map (fun k => ba + k)) := by cases o <;> rfl
/-! locals: retAddr 0 stands where nothing is known -/
def sm_lk : List Value → Nat → Value
  | [], _ => .retAddr 0
  | v :: _, 0 => v
  | _ :: t, n + 1 => sm_lk t n
def sm_pr (b ba : Nat) : Nat → List Value → List (Nat × Value)
  | _, [] => []
  | i, v :: t => if v = .retAddr 0 then sm_pr b ba (i + 1) t else (i, sm_v b ba v) :: sm_pr b ba (i + 1) t
theorem sm_pr_mem {b ba : Nat} {L : List Value} : ∀ {i : Nat} {q : Nat × Value}, q ∈ sm_pr b ba i L ↔ ∃ (j : Nat) (v : Value), L[j]? = some v ∧ v ≠ .retAddr 0 ∧ q = (i + j, sm_v b ba v) := by
  induction L with
  | nil => intro i q; simp [sm_pr]
  | cons w t ih =>
    intro i q
    have key : (∃ (j : Nat) (v : Value), (w :: t)[j]? = some v ∧ v ≠ .retAddr 0 ∧ q = (i + j, sm_v b ba v)) ↔ (w ≠ .retAddr 0 ∧ q = (i, sm_v b ba w)) ∨ ∃ (j : Nat) (v : Value), t[j]? = some v ∧ v ≠ .retAddr 0 ∧ q = (i + 1 + j, sm_v b ba v) := by
      constructor
      · rintro ⟨j, v, h1, h2, h3⟩
        cases j with
        | zero =>
          have e : w = v := by simpa using h1
          subst e
          exact Or.inl ⟨h2, h3⟩
        | succ j =>
          refine Or.inr ⟨j, v, by simpa using h1, h2, ?_⟩
          rw [h3]; congr 1; omega
      · rintro (⟨h2, h3⟩ | ⟨j, v, h1, h2, h3⟩)
        · exact ⟨0, w, rfl, h2, h3⟩
        · refine ⟨j + 1, v, by simpa using h1, h2, ?_⟩
          rw [h3]; congr 1; omega
    rw [key]
    unfold sm_pr
    by_cases hw : w = .retAddr 0
    · rw [if_pos hw, ih]
      constructor
      · exact Or.inr
      · rintro (⟨h, -⟩ | h)
        · exact absurd hw h
        · exact h
    · rw [if_neg hw, List.mem_cons, ih]
      constructor
      · rintro (h | h)
        · exact Or.inl ⟨hw, h⟩
        · exact Or.inr h
      · rintro (⟨-, h⟩ | h)
        · exact Or.inl h
        · exact Or.inr h
theorem sm_lk_get {L : List Value} : ∀ {j : Nat} {v : Value}, sm_lk L j = v → v ≠ .retAddr 0 → L[j]? = some v := by
  induction L with
  | nil => intro j v h hv; exact absurd h.symm hv
  | cons w t ih =>
    intro j v h hv
    cases j with
    | zero => exact congrArg some (show w = v from h)
    | succ j =>
      rw [List.getElem?_cons_succ]
      exact ih h hv
theorem sm_has_lk {b ba n : Nat} {ls : Array Slot} {L : List Value} {j : Nat} {v : Value} (h : lv_has ls n (sm_pr b ba 0 L)) (hk : sm_lk L j = v) (hv : v ≠ .retAddr 0) : ls[j]? = some (.val (sm_v b ba v)) := by
  have := h.2.2 (j, sm_v b ba v) (sm_pr_mem.mpr ⟨j, v, sm_lk_get hk hv, hv, by rw [Nat.zero_add]⟩)
  exact this
/-- place i may be stored to: no long begins just ahead of it -/
def sm_nl (L : List Value) (i : Nat) : Bool := match i with
  | 0 => true
  | j + 1 => match sm_lk L j with
    | .long _ => false
    | .double _ => false
    | _ => true
theorem sm_nl_cat {L : List Value} {i j : Nat} {w : Value} (h : sm_nl L i = true) (hj : j + 1 = i) (hw : L[j]? = some w) : w.category ≠ 2 := by
  subst hj
  have e : sm_lk L j = w := by
    clear h
    induction L generalizing j with
    | nil => simp at hw
    | cons x t ih =>
      cases j with
      | zero => exact (Option.some.inj (show some x = some w from hw))
      | succ j => exact ih (by simpa using hw)
  dsimp only [sm_nl] at h
  rw [e] at h
  cases w <;> simp_all [Value.category]
theorem sm_has_set {b ba n : Nat} {ls : Array Slot} {L : List Value} {i : Nat} {v : Value} (h : lv_has ls n ((i, sm_v b ba v) :: (sm_pr b ba 0 L).filter (fun q => !(q.1 == i) && !(q.1 + 1 == i && q.2.category == 2)))) (hc : sm_nl L i = true) : lv_has ls n (sm_pr b ba 0 (L.set i v)) := by
  refine ⟨h.1, h.2.1, fun q hq => ?_⟩
  obtain ⟨j, w, hj, hw, rfl⟩ := sm_pr_mem.mp hq
  rw [Nat.zero_add]
  rw [List.getElem?_set] at hj
  by_cases e : i = j
  · subst e
    rw [if_pos rfl] at hj
    split at hj
    · cases hj
      exact h.2.2 (i, sm_v b ba v) List.mem_cons_self
    · cases hj
  · rw [if_neg e] at hj
    refine h.2.2 (j, sm_v b ba w) (List.mem_cons_of_mem _ (List.mem_filter.mpr ⟨sm_pr_mem.mpr ⟨j, w, hj, hw, by rw [Nat.zero_add]⟩, ?_⟩))
    have e2 : ¬ j = i := fun q => e q.symm
    simp only [sm_v_cat]
    by_cases e3 : j + 1 = i
    · have := sm_nl_cat hc e3 hj
      simp [e2, this]
    · simp [e2, e3]
theorem sm_has_set2 {b ba n : Nat} {ls : Array Slot} {L : List Value} {i : Nat} {v : Value} (h : lv_has ls n ((i, sm_v b ba v) :: (sm_pr b ba 0 L).filter (fun q => !(q.1 == i) && (!(q.1 == i + 1) && !(q.1 + 1 == i && q.2.category == 2))))) (hc : sm_nl L i = true) : lv_has ls n (sm_pr b ba 0 ((L.set i v).set (i + 1) (.retAddr 0))) := by
  refine ⟨h.1, h.2.1, fun q hq => ?_⟩
  obtain ⟨j, w, hj, hw, rfl⟩ := sm_pr_mem.mp hq
  rw [Nat.zero_add]
  rw [List.getElem?_set, List.getElem?_set] at hj
  by_cases e1 : i + 1 = j
  · rw [if_pos e1] at hj
    split at hj
    · cases hj
      exact absurd rfl hw
    · cases hj
  · rw [if_neg e1] at hj
    by_cases e : i = j
    · subst e
      rw [if_pos rfl] at hj
      split at hj
      · cases hj
        exact h.2.2 (i, sm_v b ba v) List.mem_cons_self
      · cases hj
    · rw [if_neg e] at hj
      refine h.2.2 (j, sm_v b ba w) (List.mem_cons_of_mem _ (List.mem_filter.mpr ⟨sm_pr_mem.mpr ⟨j, w, hj, hw, by rw [Nat.zero_add]⟩, ?_⟩))
      have e2 : ¬ j = i := fun q => e q.symm
      have e4 : ¬ j = i + 1 := fun q => e1 q.symm
      simp only [sm_v_cat]
      by_cases e3 : j + 1 = i
      · have := sm_nl_cat hc e3 hj
        simp [e2, e4, this]
      · simp [e2, e3, e4]
/-- the locals that a method begins with -/
def sm_ar : List Value → List Value
  | [] => []
  | v :: t => if v.category = 2 then v :: .retAddr 0 :: sm_ar t else v :: sm_ar t
def sm_e0 (args : List Value) (n : Nat) : List Value := sm_ar args ++ List.replicate (n - (sm_ar args).length) (.retAddr 0)
theorem sm_ar_args {b ba : Nat} : ∀ (args : List Value) (i : Nat) (q : Nat × Value), q ∈ sm_pr b ba i (sm_ar args) → q ∈ lv_args i (sm_vs b ba args) := by
  intro args
  induction args with
  | nil => intro i q h; exact h
  | cons v t ih =>
    intro i q h
    show q ∈ (i, sm_v b ba v) :: lv_args (if (sm_v b ba v).category = 2 then i + 2 else i + 1) (sm_vs b ba t)
    rw [sm_v_cat]
    unfold sm_ar at h
    by_cases hc : v.category = 2
    · rw [if_pos hc] at h ⊢
      have hv : v ≠ .retAddr 0 := fun e => by rw [e] at hc; cases hc
      unfold sm_pr at h
      rw [if_neg hv] at h
      rcases List.mem_cons.mp h with h | h
      · exact List.mem_cons.mpr (Or.inl h)
      · unfold sm_pr at h
        rw [if_pos rfl] at h
        exact List.mem_cons_of_mem _ (ih (i + 2) q h)
    · rw [if_neg hc] at h ⊢
      unfold sm_pr at h
      by_cases hv : v = .retAddr 0
      · rw [if_pos hv] at h
        exact List.mem_cons_of_mem _ (ih (i + 1) q h)
      · rw [if_neg hv] at h
        rcases List.mem_cons.mp h with h | h
        · exact List.mem_cons.mpr (Or.inl h)
        · exact List.mem_cons_of_mem _ (ih (i + 1) q h)
theorem sm_e0_args {b ba : Nat} (args : List Value) (n : Nat) (q : Nat × Value) (h : q ∈ sm_pr b ba 0 (sm_e0 args n)) : q ∈ lv_args 0 (sm_vs b ba args) := by
  refine sm_ar_args args 0 q ?_
  obtain ⟨j, v, h1, h2, rfl⟩ := sm_pr_mem.mp h
  refine sm_pr_mem.mpr ⟨j, v, ?_, h2, rfl⟩
  unfold sm_e0 at h1
  by_cases hj : j < (sm_ar args).length
  · rwa [List.getElem?_append_left hj] at h1
  · rw [List.getElem?_append_right (by omega)] at h1
    exact absurd (List.eq_of_mem_replicate (List.mem_of_getElem? h1)) h2
theorem sm_ar_len {b ba : Nat} (args : List Value) : (lg_sl (sm_vs b ba args)).length = (sm_ar args).length := by
  induction args with
  | nil => rfl
  | cons v t ih =>
    unfold sm_ar
    have e : lg_sl (sm_vs b ba (v :: t)) = (if v.category = 2 then [.val (sm_v b ba v), .second] else [.val (sm_v b ba v)]) ++ lg_sl (sm_vs b ba t) := by
      show lg_sl (sm_v b ba v :: sm_vs b ba t) = _
      simp [lg_sl, sm_v_cat]
    rw [e, List.length_append, ih]
    by_cases hc : v.category = 2
    · rw [if_pos hc, if_pos hc]; simp; omega
    · rw [if_neg hc, if_neg hc]; simp; omega
/-! THE WORLD of a small heap: which cells lie where, in the kit's words -/
def sm_tys (dA : Nat → ClassId) : List (ClassId × FieldType) := sm_tags.map (fun q => (dA q.1, q.2))
def sm_fl (ci ba : Nat) (h : sm_H) (a n : Nat) : List Value := (List.range n).map (fun k => cond (Nat.beq (sm_fty ci k) 9) (va_rf ((h.2.2.2 a k).map (fun q => ba + q))) (.int (h.2.1 a k)))
def sm_en (dA : Nat → ClassId) (ba : Nat) (h : sm_H) (a : Nat) (kd : Nat × Nat) : va_E :=
  cond (Nat.blt kd.1 100) (.inr (kd.1, sm_fl kd.1 ba h a kd.2))
    (cond (Nat.beq kd.1 101) (.inl (dA kd.1, kd.2, .inr (.inl (h.2.2.1 a))))
      (cond (Nat.blt kd.1 150) (.inl (dA kd.1, kd.2, .inl (h.2.1 a)))
        (.inl (dA kd.1, kd.2, .inr (.inr (.inr (.inr (fun j => (h.2.2.2 a j).map (fun q => ba + q)))))))))
def sm_ws (dA : Nat → ClassId) (ba : Nat) (h : sm_H) : va_W := h.1.mapIdx (fun k kd => (ba + k, sm_en dA ba h k kd))
theorem sm_ws_get {dA : Nat → ClassId} {ba k : Nat} {h : sm_H} {kd : Nat × Nat} (hk : h.1[k]? = some kd) : (sm_ws dA ba h)[k]? = some (ba + k, sm_en dA ba h k kd) := by
  unfold sm_ws
  rw [List.getElem?_mapIdx, hk]; rfl
theorem sm_ws_at {dA : Nat → ClassId} {ba k : Nat} {h : sm_H} {q : Nat × va_E} (hk : (sm_ws dA ba h)[k]? = some q) : q.1 = ba + k := by
  unfold sm_ws at hk
  rw [List.getElem?_mapIdx] at hk
  cases hq : h.1[k]? with
  | none => rw [hq] at hk; cases hk
  | some kd => rw [hq] at hk; cases hk; rfl
theorem sm_ws_D {dA : Nat → ClassId} {ba : Nat} {h : sm_H} : va_D (fun q => ba ≤ q) (sm_ws dA ba h) := by
  refine ⟨fun i j p q hp hq e => ?_, fun k q hq => ?_⟩
  · have h1 := sm_ws_at hp
    have h2 := sm_ws_at hq
    omega
  · have h1 := sm_ws_at hq
    show ba ≤ q.1
    omega
theorem sm_ws_len {dA : Nat → ClassId} {ba : Nat} {h : sm_H} : (sm_ws dA ba h).length = h.1.length := by
  unfold sm_ws; simp
theorem sm_ws_set {dA : Nat → ClassId} {ba a : Nat} {h h' : sm_H} {kd : Nat × Nat} {e : va_E} (hk : h.1[a]? = some kd) (h1 : h'.1 = h.1) (he : sm_en dA ba h' a kd = e) (hne : ∀ (j : Nat) (kd : Nat × Nat), j ≠ a → sm_en dA ba h' j kd = sm_en dA ba h j kd) : (sm_ws dA ba h).set a (ba + a, e) = sm_ws dA ba h' := by
  apply List.ext_getElem?
  intro i
  have hl : a < (sm_ws dA ba h).length := by rw [sm_ws_len]; exact (List.getElem?_eq_some_iff.mp hk).1
  rw [List.getElem?_set]
  by_cases hi : a = i
  · subst hi
    rw [if_pos rfl, if_pos hl, sm_ws_get (h := h') (kd := kd) (by rw [h1]; exact hk), he]
  · rw [if_neg hi]
    unfold sm_ws
    rw [List.getElem?_mapIdx, List.getElem?_mapIdx, h1]
    cases h.1[i]? with
    | none => rfl
    | some kd2 => simp only [Option.map_some, hne i kd2 (fun q => hi q.symm)]
theorem sm_ws_app {dA : Nat → ClassId} {ba : Nat} {h h' : sm_H} {kd : Nat × Nat} {e : va_E} (h1 : h'.1 = h.1 ++ [kd]) (he : sm_en dA ba h' h.1.length kd = e) (hne : ∀ (j : Nat) (kd : Nat × Nat), j ≠ h.1.length → sm_en dA ba h' j kd = sm_en dA ba h j kd) : sm_ws dA ba h ++ [(ba + h.1.length, e)] = sm_ws dA ba h' := by
  apply List.ext_getElem?
  intro i
  by_cases hi : i < h.1.length
  · rw [List.getElem?_append_left (by rw [sm_ws_len]; exact hi)]
    unfold sm_ws
    rw [List.getElem?_mapIdx, List.getElem?_mapIdx, h1, List.getElem?_append_left hi]
    cases h.1[i]? with
    | none => rfl
    | some kd2 => simp only [Option.map_some, hne i kd2 (Nat.ne_of_lt hi)]
  · rw [List.getElem?_append_right (by rw [sm_ws_len]; omega), sm_ws_len]
    by_cases e0 : i = h.1.length
    · subst e0
      rw [Nat.sub_self, sm_ws_get (h := h') (kd := kd) (by rw [h1, List.getElem?_append_right (Nat.le_refl _), Nat.sub_self]; rfl), he]; rfl
    · have l1 : 1 ≤ i - h.1.length := by omega
      rw [List.getElem?_eq_none (by simpa using l1), List.getElem?_eq_none (by rw [sm_ws_len, h1]; simp; omega)]
theorem sm_en_i {dA : Nat → ClassId} {ba a k j : Nat} {h : sm_H} {v : Int32} {kd : Nat × Nat} (hj : j ≠ a) : sm_en dA ba (h.1, sm_u h.2.1 a k v, h.2.2) j kd = sm_en dA ba h j kd := by
  unfold sm_en sm_fl
  simp only [sm_u_rows hj]
theorem sm_en_l {dA : Nat → ClassId} {ba a k j : Nat} {h : sm_H} {v : Int64} {kd : Nat × Nat} (hj : j ≠ a) : sm_en dA ba (h.1, h.2.1, sm_u h.2.2.1 a k v, h.2.2.2) j kd = sm_en dA ba h j kd := by
  unfold sm_en sm_fl
  simp only [sm_u_rows hj]
theorem sm_en_r {dA : Nat → ClassId} {ba a k j : Nat} {h : sm_H} {v : Option Nat} {kd : Nat × Nat} (hj : j ≠ a) : sm_en dA ba (h.1, h.2.1, h.2.2.1, sm_u h.2.2.2 a k v) j kd = sm_en dA ba h j kd := by
  unfold sm_en sm_fl
  simp only [sm_u_rows hj]
/-- a heap with one cell more, all its places zero -/
def sm_nw (h : sm_H) (t n : Nat) : sm_H := (h.1 ++ [(t, n)], sm_z h.2.1 h.1.length 0, sm_z h.2.2.1 h.1.length 0, sm_z h.2.2.2 h.1.length none)
theorem sm_en_z {dA : Nat → ClassId} {ba t n j : Nat} {h : sm_H} {kd : Nat × Nat} (hj : j ≠ h.1.length) : sm_en dA ba (sm_nw h t n) j kd = sm_en dA ba h j kd := by
  unfold sm_en sm_fl sm_nw
  simp only [sm_z_rows hj]
def sm_kd : sm_K → Nat → Nat × Nat
  | [], _ => (999, 0)
  | q :: _, 0 => q
  | _ :: t, n + 1 => sm_kd t n
theorem sm_kd_get {K : sm_K} : ∀ {a : Nat}, (sm_kd K a).1 ≠ 999 → K[a]? = some (sm_kd K a) := by
  induction K with
  | nil => intro a h; exact absurd rfl h
  | cons q t ih =>
    intro a h
    cases a with
    | zero => rfl
    | succ a =>
      show (q :: t)[a + 1]? = some (sm_kd t a)
      rw [List.getElem?_cons_succ]
      exact ih h
def sm_is (h : sm_H) (a t n : Nat) : Bool := and (Nat.beq (sm_kd h.1 a).1 t) (Nat.beq (sm_kd h.1 a).2 n)
theorem sm_is_get {h : sm_H} {a t n : Nat} (ht : t < 999) (hs : sm_is h a t n = true) : h.1[a]? = some (t, n) := by
  unfold sm_is at hs
  have h1 := Nat.eq_of_beq_eq_true (Bool.and_eq_true_iff.mp hs).1
  have h2 := Nat.eq_of_beq_eq_true (Bool.and_eq_true_iff.mp hs).2
  have h3 := sm_kd_get (K := h.1) (a := a) (by omega)
  rw [h3, ← h1, ← h2]
theorem sm_tag_get {h : sm_H} {a t : Nat} (ht : t < 999) (hs : Nat.beq (sm_kd h.1 a).1 t = true) : h.1[a]? = some (t, (sm_kd h.1 a).2) := by
  have h1 := Nat.eq_of_beq_eq_true hs
  have h3 := sm_kd_get (K := h.1) (a := a) (by omega)
  rw [h3, ← h1]
/-! a method: its name, its bytes, its locals, what it answers -/
abbrev sm_M : Type := MethodName × ByteArray × Nat × Option FieldType
def sm_G : List Cond := lw_tbl.filter goodWord
def sm_w (M : sm_M) : List Cond := .code M.1 M.2.1 M.2.2.1 M.2.2.2 :: sm_G
theorem sm_in {w : Cond} (i : Nat) (h : lw_tbl[i]? = some w) (hg : goodWord w = true) : w ∈ sm_G := List.mem_filter.mpr ⟨List.mem_of_getElem? h, hg⟩
theorem sm_inm {w : Cond} (h : w ∈ lw_tbl) (hg : goodWord w = true) : w ∈ sm_G := List.mem_filter.mpr ⟨h, hg⟩
theorem sm_gG {w : Cond} (h : w ∈ sm_G) : (w.onTables && w.keeps) = true ∨ ∃ ty, w = .arrayClass ty := good_of_word (List.mem_filter.mp h).2
theorem sm_good {ws : List Cond} (h : ∀ w ∈ ws, w ∈ sm_G) : GoodIn sm_G ws := fun w hw => ⟨h w hw, sm_gG (h w hw)⟩
/-- words of nest mates: they keep by warming -/
def sm_isN (w : Cond) : Bool := match w with
  | .fieldLinkNest _ _ _ _ _ _ => true
  | .methodLinkNest _ _ _ _ => true
  | _ => false
def sm_N : List Cond := lw_tbl.filter sm_isN
theorem sm_inN {w : Cond} (i : Nat) (h : lw_tbl[i]? = some w) (hg : sm_isN w = true) : w ∈ sm_N := List.mem_filter.mpr ⟨List.mem_of_getElem? h, hg⟩
/-- arrays of int arrays -/
def sm_AA (U : State) : Prop := (Cond.arrayOver (.array .int)).before #[] U = true
theorem sm_AA.moved {u U : State} (hvm : u.vm.Alike U.vm) (h : sm_AA u) : sm_AA U := by
  obtain ⟨comp, c, k, h1, h2, h3, h4, h5⟩ := arrayOverA_spec h
  obtain ⟨k', hk', he⟩ := hvm.2.2 _ _ h3
  have hi : (U.vm.classes.findIdx? fun (x : Class) => match x.kind with | .array component _ => component == comp | _ => false) = some c := by
    rw [hvm.findIdx?_eq _ (fun _ => rfl)]
    exact h2
  have hkind : k'.kind = .array comp (.array .int) := by rw [he]; exact h4
  have f1 : U.vm.findClass (FieldType.array .int).toString = some comp := by rw [hvm.findClass]; exact h1
  have f2 : U.vm.findClass ("[" ++ (FieldType.array .int).toString) = some c := by rw [hvm.findClass]; exact h5
  unfold sm_AA Cond.before Cond.holds
  simp only [Cond.value]
  rw [f1, Option.bind_some]
  refine (congrArg (fun o : Option Nat => (o.bind (fun c => (U.vm.classes[c]?).map fun (k : Class) => match k.kind with | .array _ ty => decide (ty = FieldType.array .int) && decide (U.vm.findClass ("[" ++ (FieldType.array .int).toString) = some c) | _ => false) == some true)) hi).trans ?_
  simp [hk', hkind, f2]
/-- what the tables say of classes and arrays, all through a run -/
def sm_KK (D : va_G) (dA : Nat → ClassId) (U : State) : Prop := va_K D vwCl (sm_tys dA) U ∧ (∀ w ∈ sm_N, va_Nw w U) ∧ (∀ C ∈ sm_ao, va_AO C U) ∧ sm_AA U
theorem sm_KK.warm {D : va_G} {dA : Nat → ClassId} {s U : State} (hW : s.WarmedH U.vm) (h : sm_KK D dA s) : sm_KK D dA U := by
  refine ⟨va_K.moved hW.alike h.1, fun w hw => ?_, fun C hC => va_AO.moved hW.alike (h.2.2.1 C hC), sm_AA.moved hW.alike h.2.2.2⟩
  have h1 := h.2.1 w hw
  have h2 : sm_isN w = true := (List.mem_filter.mp hw).2
  cases w <;> first | exact va_Nw.warmF hW h1 | exact va_Nw.warmM hW h1 | cases h2
theorem sm_KK.same {D : va_G} {dA : Nat → ClassId} {s U : State} (hv : s.vm = U.vm) (h : sm_KK D dA s) : sm_KK D dA U := by
  have ha : s.vm.Alike U.vm := by rw [hv]; exact Vm.Alike.refl _
  refine ⟨va_K.moved ha h.1, fun w hw => ?_, fun C hC => va_AO.moved ha (h.2.2.1 C hC), sm_AA.moved ha h.2.2.2⟩
  have h1 := h.2.1 w hw
  have h2 : sm_isN w = true := (List.mem_filter.mp hw).2
  cases w <;> first | exact va_Nw.same rfl hv h1 | cases h2
/-- what holds all through a method's body -/
def sm_C (p : Program) (R : Room) (s : State) (m : MethodId) (args : Array Value) (meth : Method) (c : Code) (M : sm_M) (d : Nat) (D : va_G) (dA : Nat → ClassId) : Prop :=
  p.tables.exec = Jvm.exec ∧ c.code = M.2.1 ∧ c.maxLocals = M.2.2.1 ∧ s.vm.findClass M.1.cls = some m.cls ∧ (∀ w ∈ sm_G, w.before args s = true) ∧ meth.sig.returnType = M.2.2.2 ∧ meth.locks = false ∧ meth.name = M.1.name ∧ sm_KK D dA s ∧ d ≤ R.frames ∧ 40 * d ≤ R.locals
/-- the machine stands at pc, in a heap that is the picture of h -/
def sm_At (p : Program) (l : Launch) (e : Env) (R : Room) (s : State) (m : MethodId) (args : Array Value) (below : List Frame) (meth : Method) (c : Code) (b ba : Nat) (D : va_G) (dA : Nat → ClassId) (nL : Nat) (al : Bool) (rc rs : Nat) (Q : State → Prop) (pc : Nat) (L st : List Value) (h : sm_H) : Prop :=
  ∀ (H : Heap) (locs : List Loc) (cells slots : Nat) (ls : Array Slot), va_P D vwCl (sm_ws dA ba h) H → va_S (fun q => ba ≤ q) s.heap H locs → (al = true → H.size = ba + h.1.length) → lv_has ls nL (sm_pr b ba 0 L) → cells + rc ≤ R.cells → slots + rs ≤ R.slots →
    W p l e R s m args below meth c H locs cells slots Q (F0 m pc ls (sm_vs b ba st))
abbrev sm_O : Type := List (Int32 × Nat)
abbrev sm_F : Type := List Value → List Value → sm_H → Option (List Value × List Value × sm_H × sm_O)
/-- an instruction between pc and pc1 does what F says -/
def sm_Sd (M : sm_M) (d : Nat) (pc pc1 : Nat) (F : sm_F) : Prop :=
  ∀ (p : Program) (l : Launch) (e : Env) (R : Room) (s : State) (m : MethodId) (args : Array Value) (below : List Frame) (meth : Method) (c : Code) (b ba : Nat) (D : va_G) (dA : Nat → ClassId), sm_C p R s m args meth c M d D dA →
  ∀ (al : Bool) (rc rs : Nat) (Q : State → Prop) (L st L' st' : List Value) (h h' : sm_H) (ob : sm_O), F L st h = some (L', st', h', ob) → (∀ o ∈ ob, vp_in o.1 o.2) →
    sm_At p l e R s m args below meth c b ba D dA M.2.2.1 al rc rs Q pc1 L' st' h' → sm_At p l e R s m args below meth c b ba D dA M.2.2.1 al rc rs Q pc L st h
def sm_run : List sm_F → sm_F
  | [], L, st, h => some (L, st, h, [])
  | f :: fs, L, st, h => match f L st h with
    | none => none
    | some r => match sm_run fs r.1 r.2.1 r.2.2.1 with
      | none => none
      | some q => some (q.1, q.2.1, q.2.2.1, r.2.2.2 ++ q.2.2.2)
theorem sm_Sd.nil {M : sm_M} {d pc : Nat} : sm_Sd M d pc pc (sm_run []) := by
  intro p l e R s m args below meth c b ba D dA hC al rc rs Q L st L' st' h h' ob hF ho hk
  cases hF
  exact hk
theorem sm_Sd.cons {M : sm_M} {d pc pc1 pc2 : Nat} {F : sm_F} {fs : List sm_F} (h1 : sm_Sd M d pc pc1 F) (h2 : sm_Sd M d pc1 pc2 (sm_run fs)) : sm_Sd M d pc pc2 (sm_run (F :: fs)) := by
  intro p l e R s m args below meth c b ba D dA hC al rc rs Q L st L' st' h h' ob hF ho hk
  unfold sm_run at hF
  cases hr : F L st h with
  | none => rw [hr] at hF; cases hF
  | some r =>
    rw [hr] at hF
    dsimp only at hF
    cases hq : sm_run fs r.1 r.2.1 r.2.2.1 with
    | none => rw [hq] at hF; cases hF
    | some q =>
      rw [hq] at hF
      cases hF
      obtain ⟨r1, r2, r3, r4⟩ := r
      obtain ⟨q1, q2, q3, q4⟩ := q
      exact h1 p l e R s m args below meth c b ba D dA hC al rc rs Q L st _ _ h _ _ hr (fun o h => ho o (List.mem_append_left _ h)) (h2 p l e R s m args below meth c b ba D dA hC al rc rs Q _ _ _ _ _ _ _ hq (fun o h => ho o (List.mem_append_right _ h)) hk)
/-! THE INSTRUCTIONS of the small machine, and that each does what the real one does -/
section SMI
variable {M : sm_M} {d pc : Nat}
def i_c (v : Value) : sm_F := fun L st h => some (L, v :: st, h, [])
theorem sd_iconst {n : Int} {v : Int32} (hd : decode M.2.1 pc = .ok (.iconst n, 1)) (hv : Int32.ofInt n = v) : sm_Sd M d pc (pc + 1) (i_c (.int v)) := by
  intro p l e R s m args below meth c b ba D dA hC al rc rs Q L st L' st' h h' ob hF ho hk
  cases hF
  intro H locs cells slots ls hP hS hH hl h1 h2
  exact lv_iconst hC.1 hC.2.1 hd hv (hk H locs cells slots ls hP hS hH hl h1 h2)
theorem sd_bipush {n : Int} {v : Int32} (hd : decode M.2.1 pc = .ok (.bipush n, 2)) (hv : (Int8.ofInt n).toInt32 = v) : sm_Sd M d pc (pc + 2) (i_c (.int v)) := by
  intro p l e R s m args below meth c b ba D dA hC al rc rs Q L st L' st' h h' ob hF ho hk
  cases hF
  intro H locs cells slots ls hP hS hH hl h1 h2
  exact lv_bipush hC.1 hC.2.1 hd hv (hk H locs cells slots ls hP hS hH hl h1 h2)
theorem sd_sipush {n : Int} {v : Int32} (hd : decode M.2.1 pc = .ok (.sipush n, 3)) (hv : (Int16.ofInt n).toInt32 = v) : sm_Sd M d pc (pc + 3) (i_c (.int v)) := by
  intro p l e R s m args below meth c b ba D dA hC al rc rs Q L st L' st' h h' ob hF ho hk
  cases hF
  intro H locs cells slots ls hP hS hH hl h1 h2
  exact lv_sipush hC.1 hC.2.1 hd hv (hk H locs cells slots ls hP hS hH hl h1 h2)
theorem sd_lconst {n : Fin 2} {v : Int64} (hd : decode M.2.1 pc = .ok (.lconst n, 1)) (hv : Int64.ofNat (n : Nat) = v) : sm_Sd M d pc (pc + 1) (i_c (.long v)) := by
  intro p l e R s m args below meth c b ba D dA hC al rc rs Q L st L' st' h h' ob hF ho hk
  cases hF
  intro H locs cells slots ls hP hS hH hl h1 h2
  exact lv_lconst hC.1 hC.2.1 hd hv (hk H locs cells slots ls hP hS hH hl h1 h2)
theorem sd_ldc {i : Nat} {v : Int32} (hd : decode M.2.1 pc = .ok (.ldc i, 2)) (hw : Cond.constant M.1.cls i v ∈ sm_G) : sm_Sd M d pc (pc + 2) (i_c (.int v)) := by
  intro p l e R s m args below meth c b ba D dA hC al rc rs Q L st L' st' h h' ob hF ho hk
  cases hF
  intro H locs cells slots ls hP hS hH hl h1 h2
  exact lv_ldc hC.1 hC.2.1 hC.2.2.2.1 (hC.2.2.2.2.1 _ hw) hd (hk H locs cells slots ls hP hS hH hl h1 h2)
theorem sd_ldc2 {i : Nat} {v : Int64} (hd : decode M.2.1 pc = .ok (.ldc2_w i, 3)) (hw : Cond.constantLong M.1.cls i v ∈ sm_G) : sm_Sd M d pc (pc + 3) (i_c (.long v)) := by
  intro p l e R s m args below meth c b ba D dA hC al rc rs Q L st L' st' h h' ob hF ho hk
  cases hF
  intro H locs cells slots ls hP hS hH hl h1 h2
  exact lv_ldc2 hC.1 hC.2.1 hC.2.2.2.1 (hC.2.2.2.2.1 _ hw) hd (hk H locs cells slots ls hP hS hH hl h1 h2)
theorem sd_null  (hd : decode M.2.1 pc = .ok (.aconst_null, 1)) : sm_Sd M d pc (pc + 1) (i_c (.null)) := by
  intro p l e R s m args below meth c b ba D dA hC al rc rs Q L st L' st' h h' ob hF ho hk
  cases hF
  intro H locs cells slots ls hP hS hH hl h1 h2
  exact lv_null hC.1 hC.2.1 hd (hk H locs cells slots ls hP hS hH hl h1 h2)
def i_il (i : Nat) : sm_F := fun L st h => match sm_lk L i with
  | .int x => some (L, .int x :: st, h, [])
  | _ => none
def i_ll (i : Nat) : sm_F := fun L st h => match sm_lk L i with
  | .long x => some (L, .long x :: st, h, [])
  | _ => none
def i_al (i : Nat) : sm_F := fun L st h => match sm_lk L i with
  | .ref x => some (L, .ref x :: st, h, [])
  | .retAddr (n + 1) => some (L, .retAddr (n + 1) :: st, h, [])
  | _ => none
theorem sd_iload {i : Nat} (hd : decode M.2.1 pc = .ok (.iload i, 2)) : sm_Sd M d pc (pc + 2) (i_il i) := by
  intro p l e R s m args below meth c b ba D dA hC al rc rs Q L st L' st' h h' ob hF ho hk
  unfold i_il at hF
  split at hF
  · rename_i x hx
    cases hF
    intro H locs cells slots ls hP hS hH hl h1 h2
    exact lv_iload hC.1 hC.2.1 hd (sm_has_lk hl hx (fun q => by cases q)) (hk H locs cells slots ls hP hS hH hl h1 h2)
  · cases hF
theorem sd_iload_n {k : Fin 4} {i : Nat} (hd : decode M.2.1 pc = .ok (.iload_n k, 1)) (hi : (k : Nat) = i) : sm_Sd M d pc (pc + 1) (i_il i) := by
  intro p l e R s m args below meth c b ba D dA hC al rc rs Q L st L' st' h h' ob hF ho hk
  unfold i_il at hF
  split at hF
  · rename_i x hx
    cases hF
    intro H locs cells slots ls hP hS hH hl h1 h2
    exact lv_iload_n hC.1 hC.2.1 hd hi (sm_has_lk hl hx (fun q => by cases q)) (hk H locs cells slots ls hP hS hH hl h1 h2)
  · cases hF
theorem sd_lload {i : Nat} (hd : decode M.2.1 pc = .ok (.lload i, 2)) : sm_Sd M d pc (pc + 2) (i_ll i) := by
  intro p l e R s m args below meth c b ba D dA hC al rc rs Q L st L' st' h h' ob hF ho hk
  unfold i_ll at hF
  split at hF
  · rename_i x hx
    cases hF
    intro H locs cells slots ls hP hS hH hl h1 h2
    exact lv_lload hC.1 hC.2.1 hd (sm_has_lk hl hx (fun q => by cases q)) (hk H locs cells slots ls hP hS hH hl h1 h2)
  · cases hF
theorem sd_lload_n {k : Fin 4} {i : Nat} (hd : decode M.2.1 pc = .ok (.lload_n k, 1)) (hi : (k : Nat) = i) : sm_Sd M d pc (pc + 1) (i_ll i) := by
  intro p l e R s m args below meth c b ba D dA hC al rc rs Q L st L' st' h h' ob hF ho hk
  unfold i_ll at hF
  split at hF
  · rename_i x hx
    cases hF
    intro H locs cells slots ls hP hS hH hl h1 h2
    exact lv_lload_n hC.1 hC.2.1 hd hi (sm_has_lk hl hx (fun q => by cases q)) (hk H locs cells slots ls hP hS hH hl h1 h2)
  · cases hF
theorem sd_aload {i : Nat} (hd : decode M.2.1 pc = .ok (.aload i, 2)) : sm_Sd M d pc (pc + 2) (i_al i) := by
  intro p l e R s m args below meth c b ba D dA hC al rc rs Q L st L' st' h h' ob hF ho hk
  unfold i_al at hF
  split at hF
  · rename_i x hx
    cases hF
    intro H locs cells slots ls hP hS hH hl h1 h2
    exact lv_aload hC.1 hC.2.1 hd (sm_has_lk hl hx (fun q => by cases q)) (hk H locs cells slots ls hP hS hH hl h1 h2)
  · rename_i n hx
    cases hF
    intro H locs cells slots ls hP hS hH hl h1 h2
    exact lv_aload hC.1 hC.2.1 hd (sm_has_lk hl hx (fun q => by cases q)) (hk H locs cells slots ls hP hS hH hl h1 h2)
  · cases hF
theorem sd_aload_n {k : Fin 4} {i : Nat} (hd : decode M.2.1 pc = .ok (.aload_n k, 1)) (hi : (k : Nat) = i) : sm_Sd M d pc (pc + 1) (i_al i) := by
  intro p l e R s m args below meth c b ba D dA hC al rc rs Q L st L' st' h h' ob hF ho hk
  unfold i_al at hF
  split at hF
  · rename_i x hx
    cases hF
    intro H locs cells slots ls hP hS hH hl h1 h2
    exact lv_aload_n hC.1 hC.2.1 hd hi (sm_has_lk hl hx (fun q => by cases q)) (hk H locs cells slots ls hP hS hH hl h1 h2)
  · rename_i n hx
    cases hF
    intro H locs cells slots ls hP hS hH hl h1 h2
    exact lv_aload_n hC.1 hC.2.1 hd hi (sm_has_lk hl hx (fun q => by cases q)) (hk H locs cells slots ls hP hS hH hl h1 h2)
  · cases hF
def i_is (i : Nat) : sm_F := fun L st h => match st with
  | .int x :: r => cond (sm_nl L i) (some (L.set i (.int x), r, h, [])) none
  | _ => none
def i_ls (i : Nat) : sm_F := fun L st h => match st with
  | .long x :: r => cond (sm_nl L i) (some ((L.set i (.long x)).set (i + 1) (.retAddr 0), r, h, [])) none
  | _ => none
def i_as (i : Nat) : sm_F := fun L st h => match st with
  | .ref x :: r => cond (sm_nl L i) (some (L.set i (.ref x), r, h, [])) none
  | _ => none
theorem sd_istore {i : Nat} (hd : decode M.2.1 pc = .ok (.istore i, 2)) (hn : i < M.2.2.1) : sm_Sd M d pc (pc + 2) (i_is i) := by
  intro p l e R s m args below meth c b ba D dA hC al rc rs Q L st L' st' h h' ob hF ho hk
  unfold i_is at hF
  split at hF
  · rename_i x r
    cases hc : sm_nl L i with
    | false => rw [hc] at hF; cases hF
    | true =>
      rw [hc] at hF
      cases hF
      intro H locs cells slots ls hP hS hH hl h1 h2
      exact lv_istore hC.1 hC.2.1 hd hl hn rfl (fun ls' hl' => hk H locs cells slots ls' hP hS hH (sm_has_set (v := .int x) hl' hc) h1 h2)
  · cases hF
theorem sd_istore_n {k : Fin 4} {i : Nat} (hd : decode M.2.1 pc = .ok (.istore_n k, 1)) (hi : (k : Nat) = i) (hn : i < M.2.2.1) : sm_Sd M d pc (pc + 1) (i_is i) := by
  intro p l e R s m args below meth c b ba D dA hC al rc rs Q L st L' st' h h' ob hF ho hk
  unfold i_is at hF
  split at hF
  · rename_i x r
    cases hc : sm_nl L i with
    | false => rw [hc] at hF; cases hF
    | true =>
      rw [hc] at hF
      cases hF
      intro H locs cells slots ls hP hS hH hl h1 h2
      exact lv_istore_n hC.1 hC.2.1 hd hi hl hn rfl (fun ls' hl' => hk H locs cells slots ls' hP hS hH (sm_has_set (v := .int x) hl' hc) h1 h2)
  · cases hF
theorem sd_lstore {i : Nat} (hd : decode M.2.1 pc = .ok (.lstore i, 2)) (hn : i + 1 < M.2.2.1) : sm_Sd M d pc (pc + 2) (i_ls i) := by
  intro p l e R s m args below meth c b ba D dA hC al rc rs Q L st L' st' h h' ob hF ho hk
  unfold i_ls at hF
  split at hF
  · rename_i x r
    cases hc : sm_nl L i with
    | false => rw [hc] at hF; cases hF
    | true =>
      rw [hc] at hF
      cases hF
      intro H locs cells slots ls hP hS hH hl h1 h2
      exact lv_lstore hC.1 hC.2.1 hd hl hn rfl (fun ls' hl' => hk H locs cells slots ls' hP hS hH (sm_has_set2 (v := .long x) hl' hc) h1 h2)
  · cases hF
theorem sd_lstore_n {k : Fin 4} {i : Nat} (hd : decode M.2.1 pc = .ok (.lstore_n k, 1)) (hi : (k : Nat) = i) (hn : i + 1 < M.2.2.1) : sm_Sd M d pc (pc + 1) (i_ls i) := by
  intro p l e R s m args below meth c b ba D dA hC al rc rs Q L st L' st' h h' ob hF ho hk
  unfold i_ls at hF
  split at hF
  · rename_i x r
    cases hc : sm_nl L i with
    | false => rw [hc] at hF; cases hF
    | true =>
      rw [hc] at hF
      cases hF
      intro H locs cells slots ls hP hS hH hl h1 h2
      exact lv_lstore_n hC.1 hC.2.1 hd hi hl hn rfl (fun ls' hl' => hk H locs cells slots ls' hP hS hH (sm_has_set2 (v := .long x) hl' hc) h1 h2)
  · cases hF
theorem sd_astore {i : Nat} (hd : decode M.2.1 pc = .ok (.astore i, 2)) (hn : i < M.2.2.1) : sm_Sd M d pc (pc + 2) (i_as i) := by
  intro p l e R s m args below meth c b ba D dA hC al rc rs Q L st L' st' h h' ob hF ho hk
  unfold i_as at hF
  split at hF
  · rename_i x r
    cases hc : sm_nl L i with
    | false => rw [hc] at hF; cases hF
    | true =>
      rw [hc] at hF
      cases hF
      intro H locs cells slots ls hP hS hH hl h1 h2
      exact lv_astore hC.1 hC.2.1 hd hl hn rfl (fun ls' hl' => hk H locs cells slots ls' hP hS hH (sm_has_set (v := .ref x) hl' hc) h1 h2)
  · cases hF
theorem sd_astore_n {k : Fin 4} {i : Nat} (hd : decode M.2.1 pc = .ok (.astore_n k, 1)) (hi : (k : Nat) = i) (hn : i < M.2.2.1) : sm_Sd M d pc (pc + 1) (i_as i) := by
  intro p l e R s m args below meth c b ba D dA hC al rc rs Q L st L' st' h h' ob hF ho hk
  unfold i_as at hF
  split at hF
  · rename_i x r
    cases hc : sm_nl L i with
    | false => rw [hc] at hF; cases hF
    | true =>
      rw [hc] at hF
      cases hF
      intro H locs cells slots ls hP hS hH hl h1 h2
      exact lv_astore_n hC.1 hC.2.1 hd hi hl hn rfl (fun ls' hl' => hk H locs cells slots ls' hP hS hH (sm_has_set (v := .ref x) hl' hc) h1 h2)
  · cases hF
def i_inc (i : Nat) (k : Int32) : sm_F := fun L st h => match sm_lk L i with
  | .int x => cond (sm_nl L i) (some (L.set i (.int (x + k)), st, h, [])) none
  | _ => none
theorem sd_iinc {i : Nat} {n : Int} {k : Int32} (hd : decode M.2.1 pc = .ok (.iinc i n, 3)) (hv : Int32.ofInt n = k) (hn : i < M.2.2.1) : sm_Sd M d pc (pc + 3) (i_inc i k) := by
  intro p l e R s m args below meth c b ba D dA hC al rc rs Q L st L' st' h h' ob hF ho hk
  unfold i_inc at hF
  split at hF
  · rename_i x hx
    cases hc : sm_nl L i with
    | false => rw [hc] at hF; cases hF
    | true =>
      rw [hc] at hF
      cases hF
      intro H locs cells slots ls hP hS hH hl h1 h2
      have hm : (i, sm_v b ba (.int x)) ∈ sm_pr b ba 0 L := (sm_pr_mem (b := b) (ba := ba) (L := L) (i := 0) (q := (i, sm_v b ba (.int x)))).mpr ⟨i, .int x, sm_lk_get hx Value.noConfusion, Value.noConfusion, by rw [Nat.zero_add]⟩
      obtain ⟨k0, hk0⟩ := List.getElem?_of_mem hm
      exact lv_iinc (k := k0) (x := x) hC.1 hC.2.1 hd hl hk0 (by rw [hv]) hn rfl (fun ls' hl' => hk H locs cells slots ls' hP hS hH (sm_has_set (v := .int (x + k)) hl' hc) h1 h2)
  · cases hF
def i_o2 (f : Int32 → Int32 → Int32) : sm_F := fun L st h => match st with
  | .int y :: .int x :: r => some (L, .int (f x y) :: r, h, [])
  | _ => none
def i_dv (f : Int32 → Int32 → Int32) : sm_F := fun L st h => match st with
  | .int y :: .int x :: r => cond (decide (y = 0)) none (some (L, .int (f x y) :: r, h, []))
  | _ => none
def i_o1 (f : Int32 → Int32) : sm_F := fun L st h => match st with
  | .int x :: r => some (L, .int (f x) :: r, h, [])
  | _ => none
def i_l2 (f : Int64 → Int64 → Int64) : sm_F := fun L st h => match st with
  | .long y :: .long x :: r => some (L, .long (f x y) :: r, h, [])
  | _ => none
def i_lsh (f : Int64 → Int32 → Int64) : sm_F := fun L st h => match st with
  | .int y :: .long x :: r => some (L, .long (f x y) :: r, h, [])
  | _ => none
def i_l1 (f : Int64 → Int64) : sm_F := fun L st h => match st with
  | .long x :: r => some (L, .long (f x) :: r, h, [])
  | _ => none
def i_i2l : sm_F := fun L st h => match st with
  | .int x :: r => some (L, .long x.toInt64 :: r, h, [])
  | _ => none
def i_l2i : sm_F := fun L st h => match st with
  | .long x :: r => some (L, .int x.toInt32 :: r, h, [])
  | _ => none
def i_lcmp : sm_F := fun L st h => match st with
  | .long y :: .long x :: r => some (L, .int (lg_cmp x y) :: r, h, [])
  | _ => none
theorem sd_iadd (hd : decode M.2.1 pc = .ok (.iadd, 1)) : sm_Sd M d pc (pc + 1) (i_o2 (fun x y => x + y)) := by
  intro p l e R s m args below meth c b ba D dA hC al rc rs Q L st L' st' h h' ob hF ho hk
  unfold i_o2 at hF
  split at hF
  · cases hF
    intro H locs cells slots ls hP hS hH hl h1 h2
    exact lv_iadd hC.1 hC.2.1 hd (hk H locs cells slots ls hP hS hH hl h1 h2)
  · cases hF
theorem sd_isub (hd : decode M.2.1 pc = .ok (.isub, 1)) : sm_Sd M d pc (pc + 1) (i_o2 (fun x y => x - y)) := by
  intro p l e R s m args below meth c b ba D dA hC al rc rs Q L st L' st' h h' ob hF ho hk
  unfold i_o2 at hF
  split at hF
  · cases hF
    intro H locs cells slots ls hP hS hH hl h1 h2
    exact lv_isub hC.1 hC.2.1 hd (hk H locs cells slots ls hP hS hH hl h1 h2)
  · cases hF
theorem sd_imul (hd : decode M.2.1 pc = .ok (.imul, 1)) : sm_Sd M d pc (pc + 1) (i_o2 (fun x y => x * y)) := by
  intro p l e R s m args below meth c b ba D dA hC al rc rs Q L st L' st' h h' ob hF ho hk
  unfold i_o2 at hF
  split at hF
  · cases hF
    intro H locs cells slots ls hP hS hH hl h1 h2
    exact lv_imul hC.1 hC.2.1 hd (hk H locs cells slots ls hP hS hH hl h1 h2)
  · cases hF
theorem sd_iand (hd : decode M.2.1 pc = .ok (.iand, 1)) : sm_Sd M d pc (pc + 1) (i_o2 (fun x y => x &&& y)) := by
  intro p l e R s m args below meth c b ba D dA hC al rc rs Q L st L' st' h h' ob hF ho hk
  unfold i_o2 at hF
  split at hF
  · cases hF
    intro H locs cells slots ls hP hS hH hl h1 h2
    exact lv_iand hC.1 hC.2.1 hd (hk H locs cells slots ls hP hS hH hl h1 h2)
  · cases hF
theorem sd_ior (hd : decode M.2.1 pc = .ok (.ior, 1)) : sm_Sd M d pc (pc + 1) (i_o2 (fun x y => x ||| y)) := by
  intro p l e R s m args below meth c b ba D dA hC al rc rs Q L st L' st' h h' ob hF ho hk
  unfold i_o2 at hF
  split at hF
  · cases hF
    intro H locs cells slots ls hP hS hH hl h1 h2
    exact lv_ior hC.1 hC.2.1 hd (hk H locs cells slots ls hP hS hH hl h1 h2)
  · cases hF
theorem sd_ixor (hd : decode M.2.1 pc = .ok (.ixor, 1)) : sm_Sd M d pc (pc + 1) (i_o2 (fun x y => x ^^^ y)) := by
  intro p l e R s m args below meth c b ba D dA hC al rc rs Q L st L' st' h h' ob hF ho hk
  unfold i_o2 at hF
  split at hF
  · cases hF
    intro H locs cells slots ls hP hS hH hl h1 h2
    exact lv_ixor hC.1 hC.2.1 hd (hk H locs cells slots ls hP hS hH hl h1 h2)
  · cases hF
theorem sd_ishl (hd : decode M.2.1 pc = .ok (.ishl, 1)) : sm_Sd M d pc (pc + 1) (i_o2 (fun x y => x <<< (y &&& 31))) := by
  intro p l e R s m args below meth c b ba D dA hC al rc rs Q L st L' st' h h' ob hF ho hk
  unfold i_o2 at hF
  split at hF
  · cases hF
    intro H locs cells slots ls hP hS hH hl h1 h2
    exact lv_ishl hC.1 hC.2.1 hd (hk H locs cells slots ls hP hS hH hl h1 h2)
  · cases hF
theorem sd_ishr (hd : decode M.2.1 pc = .ok (.ishr, 1)) : sm_Sd M d pc (pc + 1) (i_o2 (fun x y => x >>> (y &&& 31))) := by
  intro p l e R s m args below meth c b ba D dA hC al rc rs Q L st L' st' h h' ob hF ho hk
  unfold i_o2 at hF
  split at hF
  · cases hF
    intro H locs cells slots ls hP hS hH hl h1 h2
    exact lv_ishr hC.1 hC.2.1 hd (hk H locs cells slots ls hP hS hH hl h1 h2)
  · cases hF
theorem sd_iushr (hd : decode M.2.1 pc = .ok (.iushr, 1)) : sm_Sd M d pc (pc + 1) (i_o2 (fun x y => (x.toUInt32 >>> (y.toUInt32 &&& Int32.toUInt32 31)).toInt32)) := by
  intro p l e R s m args below meth c b ba D dA hC al rc rs Q L st L' st' h h' ob hF ho hk
  unfold i_o2 at hF
  split at hF
  · cases hF
    intro H locs cells slots ls hP hS hH hl h1 h2
    exact lv_iushr hC.1 hC.2.1 hd rfl (hk H locs cells slots ls hP hS hH hl h1 h2)
  · cases hF
theorem sd_ineg (hd : decode M.2.1 pc = .ok (.ineg, 1)) : sm_Sd M d pc (pc + 1) (i_o1 (fun x => -x)) := by
  intro p l e R s m args below meth c b ba D dA hC al rc rs Q L st L' st' h h' ob hF ho hk
  unfold i_o1 at hF
  split at hF
  · cases hF
    intro H locs cells slots ls hP hS hH hl h1 h2
    exact lv_ineg hC.1 hC.2.1 hd (hk H locs cells slots ls hP hS hH hl h1 h2)
  · cases hF
theorem sd_i2b (hd : decode M.2.1 pc = .ok (.i2b, 1)) : sm_Sd M d pc (pc + 1) (i_o1 (fun x => x.toInt8.toInt32)) := by
  intro p l e R s m args below meth c b ba D dA hC al rc rs Q L st L' st' h h' ob hF ho hk
  unfold i_o1 at hF
  split at hF
  · cases hF
    intro H locs cells slots ls hP hS hH hl h1 h2
    exact lv_i2b hC.1 hC.2.1 hd rfl (hk H locs cells slots ls hP hS hH hl h1 h2)
  · cases hF
theorem sd_i2s (hd : decode M.2.1 pc = .ok (.i2s, 1)) : sm_Sd M d pc (pc + 1) (i_o1 (fun x => x.toInt16.toInt32)) := by
  intro p l e R s m args below meth c b ba D dA hC al rc rs Q L st L' st' h h' ob hF ho hk
  unfold i_o1 at hF
  split at hF
  · cases hF
    intro H locs cells slots ls hP hS hH hl h1 h2
    exact lv_i2s hC.1 hC.2.1 hd rfl (hk H locs cells slots ls hP hS hH hl h1 h2)
  · cases hF
theorem sd_i2c (hd : decode M.2.1 pc = .ok (.i2c, 1)) : sm_Sd M d pc (pc + 1) (i_o1 (fun x => (x.toUInt32 % 65536).toInt32)) := by
  intro p l e R s m args below meth c b ba D dA hC al rc rs Q L st L' st' h h' ob hF ho hk
  unfold i_o1 at hF
  split at hF
  · cases hF
    intro H locs cells slots ls hP hS hH hl h1 h2
    exact lv_i2c hC.1 hC.2.1 hd rfl (hk H locs cells slots ls hP hS hH hl h1 h2)
  · cases hF
theorem sd_ladd (hd : decode M.2.1 pc = .ok (.ladd, 1)) : sm_Sd M d pc (pc + 1) (i_l2 (fun x y => x + y)) := by
  intro p l e R s m args below meth c b ba D dA hC al rc rs Q L st L' st' h h' ob hF ho hk
  unfold i_l2 at hF
  split at hF
  · cases hF
    intro H locs cells slots ls hP hS hH hl h1 h2
    exact lv_ladd hC.1 hC.2.1 hd (hk H locs cells slots ls hP hS hH hl h1 h2)
  · cases hF
theorem sd_lsub (hd : decode M.2.1 pc = .ok (.lsub, 1)) : sm_Sd M d pc (pc + 1) (i_l2 (fun x y => x - y)) := by
  intro p l e R s m args below meth c b ba D dA hC al rc rs Q L st L' st' h h' ob hF ho hk
  unfold i_l2 at hF
  split at hF
  · cases hF
    intro H locs cells slots ls hP hS hH hl h1 h2
    exact lv_lsub hC.1 hC.2.1 hd (hk H locs cells slots ls hP hS hH hl h1 h2)
  · cases hF
theorem sd_lmul (hd : decode M.2.1 pc = .ok (.lmul, 1)) : sm_Sd M d pc (pc + 1) (i_l2 (fun x y => x * y)) := by
  intro p l e R s m args below meth c b ba D dA hC al rc rs Q L st L' st' h h' ob hF ho hk
  unfold i_l2 at hF
  split at hF
  · cases hF
    intro H locs cells slots ls hP hS hH hl h1 h2
    exact lv_lmul hC.1 hC.2.1 hd (hk H locs cells slots ls hP hS hH hl h1 h2)
  · cases hF
theorem sd_land (hd : decode M.2.1 pc = .ok (.land, 1)) : sm_Sd M d pc (pc + 1) (i_l2 (fun x y => x &&& y)) := by
  intro p l e R s m args below meth c b ba D dA hC al rc rs Q L st L' st' h h' ob hF ho hk
  unfold i_l2 at hF
  split at hF
  · cases hF
    intro H locs cells slots ls hP hS hH hl h1 h2
    exact lv_land hC.1 hC.2.1 hd (hk H locs cells slots ls hP hS hH hl h1 h2)
  · cases hF
theorem sd_lor (hd : decode M.2.1 pc = .ok (.lor, 1)) : sm_Sd M d pc (pc + 1) (i_l2 (fun x y => x ||| y)) := by
  intro p l e R s m args below meth c b ba D dA hC al rc rs Q L st L' st' h h' ob hF ho hk
  unfold i_l2 at hF
  split at hF
  · cases hF
    intro H locs cells slots ls hP hS hH hl h1 h2
    exact lv_lor hC.1 hC.2.1 hd (hk H locs cells slots ls hP hS hH hl h1 h2)
  · cases hF
theorem sd_lxor (hd : decode M.2.1 pc = .ok (.lxor, 1)) : sm_Sd M d pc (pc + 1) (i_l2 (fun x y => x ^^^ y)) := by
  intro p l e R s m args below meth c b ba D dA hC al rc rs Q L st L' st' h h' ob hF ho hk
  unfold i_l2 at hF
  split at hF
  · cases hF
    intro H locs cells slots ls hP hS hH hl h1 h2
    exact lv_lxor hC.1 hC.2.1 hd (hk H locs cells slots ls hP hS hH hl h1 h2)
  · cases hF
theorem sd_lneg (hd : decode M.2.1 pc = .ok (.lneg, 1)) : sm_Sd M d pc (pc + 1) (i_l1 (fun x => -x)) := by
  intro p l e R s m args below meth c b ba D dA hC al rc rs Q L st L' st' h h' ob hF ho hk
  unfold i_l1 at hF
  split at hF
  · cases hF
    intro H locs cells slots ls hP hS hH hl h1 h2
    exact lv_lneg hC.1 hC.2.1 hd (hk H locs cells slots ls hP hS hH hl h1 h2)
  · cases hF
theorem sd_lshl (hd : decode M.2.1 pc = .ok (.lshl, 1)) : sm_Sd M d pc (pc + 1) (i_lsh (fun x y => x <<< (y.toInt64 &&& 63))) := by
  intro p l e R s m args below meth c b ba D dA hC al rc rs Q L st L' st' h h' ob hF ho hk
  unfold i_lsh at hF
  split at hF
  · cases hF
    intro H locs cells slots ls hP hS hH hl h1 h2
    exact lv_lshl hC.1 hC.2.1 hd rfl (hk H locs cells slots ls hP hS hH hl h1 h2)
  · cases hF
theorem sd_lshr (hd : decode M.2.1 pc = .ok (.lshr, 1)) : sm_Sd M d pc (pc + 1) (i_lsh (fun x y => x >>> (y.toInt64 &&& 63))) := by
  intro p l e R s m args below meth c b ba D dA hC al rc rs Q L st L' st' h h' ob hF ho hk
  unfold i_lsh at hF
  split at hF
  · cases hF
    intro H locs cells slots ls hP hS hH hl h1 h2
    exact lv_lshr hC.1 hC.2.1 hd rfl (hk H locs cells slots ls hP hS hH hl h1 h2)
  · cases hF
theorem sd_lushr (hd : decode M.2.1 pc = .ok (.lushr, 1)) : sm_Sd M d pc (pc + 1) (i_lsh (fun x y => (x.toUInt64 >>> (y.toInt64.toUInt64 &&& Int64.toUInt64 63)).toInt64)) := by
  intro p l e R s m args below meth c b ba D dA hC al rc rs Q L st L' st' h h' ob hF ho hk
  unfold i_lsh at hF
  split at hF
  · cases hF
    intro H locs cells slots ls hP hS hH hl h1 h2
    exact lv_lushr hC.1 hC.2.1 hd rfl (hk H locs cells slots ls hP hS hH hl h1 h2)
  · cases hF
theorem sd_i2l (hd : decode M.2.1 pc = .ok (.i2l, 1)) : sm_Sd M d pc (pc + 1) (i_i2l) := by
  intro p l e R s m args below meth c b ba D dA hC al rc rs Q L st L' st' h h' ob hF ho hk
  unfold i_i2l at hF
  split at hF
  · cases hF
    intro H locs cells slots ls hP hS hH hl h1 h2
    exact lv_i2l hC.1 hC.2.1 hd rfl (hk H locs cells slots ls hP hS hH hl h1 h2)
  · cases hF
theorem sd_l2i (hd : decode M.2.1 pc = .ok (.l2i, 1)) : sm_Sd M d pc (pc + 1) (i_l2i) := by
  intro p l e R s m args below meth c b ba D dA hC al rc rs Q L st L' st' h h' ob hF ho hk
  unfold i_l2i at hF
  split at hF
  · cases hF
    intro H locs cells slots ls hP hS hH hl h1 h2
    exact lv_l2i hC.1 hC.2.1 hd rfl (hk H locs cells slots ls hP hS hH hl h1 h2)
  · cases hF
theorem sd_lcmp (hd : decode M.2.1 pc = .ok (.lcmp, 1)) : sm_Sd M d pc (pc + 1) (i_lcmp) := by
  intro p l e R s m args below meth c b ba D dA hC al rc rs Q L st L' st' h h' ob hF ho hk
  unfold i_lcmp at hF
  split at hF
  · cases hF
    intro H locs cells slots ls hP hS hH hl h1 h2
    exact W.lcmp hC.1 hC.2.1 hd (hk H locs cells slots ls hP hS hH hl h1 h2)
  · cases hF
theorem sd_idiv (hd : decode M.2.1 pc = .ok (.idiv, 1)) : sm_Sd M d pc (pc + 1) (i_dv (fun x y => x / y)) := by
  intro p l e R s m args below meth c b ba D dA hC al rc rs Q L st L' st' h h' ob hF ho hk
  unfold i_dv at hF
  split at hF
  · rename_i y x r
    by_cases hy : y = 0
    · rw [decide_eq_true hy] at hF; cases hF
    · rw [decide_eq_false hy] at hF
      cases hF
      intro H locs cells slots ls hP hS hH hl h1 h2
      exact lv_idiv hC.1 hC.2.1 hd hy (hk H locs cells slots ls hP hS hH hl h1 h2)
  · cases hF
theorem sd_irem (hd : decode M.2.1 pc = .ok (.irem, 1)) : sm_Sd M d pc (pc + 1) (i_dv (fun x y => x - x / y * y)) := by
  intro p l e R s m args below meth c b ba D dA hC al rc rs Q L st L' st' h h' ob hF ho hk
  unfold i_dv at hF
  split at hF
  · rename_i y x r
    by_cases hy : y = 0
    · rw [decide_eq_true hy] at hF; cases hF
    · rw [decide_eq_false hy] at hF
      cases hF
      intro H locs cells slots ls hP hS hH hl h1 h2
      exact lv_irem hC.1 hC.2.1 hd hy (hk H locs cells slots ls hP hS hH hl h1 h2)
  · cases hF
def sm_c1 (v : Value) : Bool := Nat.beq v.category 1
theorem sm_c1v {b ba : Nat} {v : Value} (h : sm_c1 v = true) : (sm_v b ba v).category = 1 := by
  rw [sm_v_cat]; exact Nat.eq_of_beq_eq_true h
def i_dup : sm_F := fun L st h => match st with
  | v :: r => cond (sm_c1 v) (some (L, v :: v :: r, h, [])) none
  | _ => none
def i_pop : sm_F := fun L st h => match st with
  | v :: r => cond (sm_c1 v) (some (L, r, h, [])) none
  | _ => none
def i_dx1 : sm_F := fun L st h => match st with
  | v :: w :: r => cond (and (sm_c1 v) (sm_c1 w)) (some (L, v :: w :: v :: r, h, [])) none
  | _ => none
def i_dx2 : sm_F := fun L st h => match st with
  | v :: w :: u :: r => cond (and (sm_c1 v) (and (sm_c1 w) (sm_c1 u))) (some (L, v :: w :: u :: v :: r, h, [])) none
  | _ => none
def i_d2 : sm_F := fun L st h => match st with
  | v :: w :: r => cond (and (sm_c1 v) (sm_c1 w)) (some (L, v :: w :: v :: w :: r, h, [])) none
  | _ => none
def i_pop2 : sm_F := fun L st h => match st with
  | .long _ :: r => some (L, r, h, [])
  | _ => none
theorem sd_dup (hd : decode M.2.1 pc = .ok (.dup, 1)) : sm_Sd M d pc (pc + 1) i_dup := by
  intro p l e R s m args below meth c b ba D dA hC al rc rs Q L st L' st' h h' ob hF ho hk
  unfold i_dup at hF
  split at hF
  · rename_i v r
    cases hc : sm_c1 v with
    | false => rw [hc] at hF; cases hF
    | true =>
      rw [hc] at hF
      cases hF
      skip
      intro H locs cells slots ls hP hS hH hl h1 h2
      exact lv_dup hC.1 hC.2.1 hd (sm_c1v hc) (hk H locs cells slots ls hP hS hH hl h1 h2)
  · cases hF
theorem sd_pop (hd : decode M.2.1 pc = .ok (.pop, 1)) : sm_Sd M d pc (pc + 1) i_pop := by
  intro p l e R s m args below meth c b ba D dA hC al rc rs Q L st L' st' h h' ob hF ho hk
  unfold i_pop at hF
  split at hF
  · rename_i v r
    cases hc : sm_c1 v with
    | false => rw [hc] at hF; cases hF
    | true =>
      rw [hc] at hF
      cases hF
      skip
      intro H locs cells slots ls hP hS hH hl h1 h2
      exact lv_pop hC.1 hC.2.1 hd (sm_c1v (v := v) hc) (hk H locs cells slots ls hP hS hH hl h1 h2)
  · cases hF
theorem sd_dup_x1 (hd : decode M.2.1 pc = .ok (.dup_x1, 1)) : sm_Sd M d pc (pc + 1) i_dx1 := by
  intro p l e R s m args below meth c b ba D dA hC al rc rs Q L st L' st' h h' ob hF ho hk
  unfold i_dx1 at hF
  split at hF
  · rename_i v w r
    cases hc : and (sm_c1 v) (sm_c1 w) with
    | false => rw [hc] at hF; cases hF
    | true =>
      rw [hc] at hF
      cases hF
      simp only [Bool.and_eq_true_iff] at hc
      intro H locs cells slots ls hP hS hH hl h1 h2
      exact lv_dup_x1 hC.1 hC.2.1 hd (sm_c1v hc.1) (sm_c1v hc.2) (hk H locs cells slots ls hP hS hH hl h1 h2)
  · cases hF
theorem sd_dup_x2 (hd : decode M.2.1 pc = .ok (.dup_x2, 1)) : sm_Sd M d pc (pc + 1) i_dx2 := by
  intro p l e R s m args below meth c b ba D dA hC al rc rs Q L st L' st' h h' ob hF ho hk
  unfold i_dx2 at hF
  split at hF
  · rename_i v w u r
    cases hc : and (sm_c1 v) (and (sm_c1 w) (sm_c1 u)) with
    | false => rw [hc] at hF; cases hF
    | true =>
      rw [hc] at hF
      cases hF
      simp only [Bool.and_eq_true_iff] at hc
      intro H locs cells slots ls hP hS hH hl h1 h2
      exact lv_dup_x2 hC.1 hC.2.1 hd (sm_c1v hc.1) (sm_c1v hc.2.1) (sm_c1v hc.2.2) (hk H locs cells slots ls hP hS hH hl h1 h2)
  · cases hF
theorem sd_dup2 (hd : decode M.2.1 pc = .ok (.dup2, 1)) : sm_Sd M d pc (pc + 1) i_d2 := by
  intro p l e R s m args below meth c b ba D dA hC al rc rs Q L st L' st' h h' ob hF ho hk
  unfold i_d2 at hF
  split at hF
  · rename_i v w r
    cases hc : and (sm_c1 v) (sm_c1 w) with
    | false => rw [hc] at hF; cases hF
    | true =>
      rw [hc] at hF
      cases hF
      simp only [Bool.and_eq_true_iff] at hc
      intro H locs cells slots ls hP hS hH hl h1 h2
      exact lv_dup2_11 hC.1 hC.2.1 hd (sm_c1v hc.1) (sm_c1v hc.2) (hk H locs cells slots ls hP hS hH hl h1 h2)
  · cases hF
theorem sd_pop2 (hd : decode M.2.1 pc = .ok (.pop2, 1)) : sm_Sd M d pc (pc + 1) i_pop2 := by
  intro p l e R s m args below meth c b ba D dA hC al rc rs Q L st L' st' h h' ob hF ho hk
  unfold i_pop2 at hF
  split at hF
  · cases hF
    intro H locs cells slots ls hP hS hH hl h1 h2
    exact lv_pop2_2 hC.1 hC.2.1 hd rfl (hk H locs cells slots ls hP hS hH hl h1 h2)
  · cases hF
def sm_sum (st : List Value) : Nat := (st.map fun v => v.category).sum
def i_mx : sm_F := fun L st h => match st with
  | .int y :: .int x :: r => cond (Nat.ble (sm_sum r) 20) (some (L, .int (if x < y then y else x) :: r, h, [])) none
  | _ => none
def i_mn : sm_F := fun L st h => match st with
  | .int y :: .int x :: r => cond (Nat.ble (sm_sum r) 20) (some (L, .int (if y < x then y else x) :: r, h, [])) none
  | _ => none
def i_ab : sm_F := fun L st h => match st with
  | .int x :: r => cond (Nat.ble (sm_sum r) 20) (some (L, .int (if 0 ≤ x then x else 0 - x) :: r, h, [])) none
  | _ => none
theorem sd_mmax {i : Nat} (hd : decode M.2.1 pc = .ok (.invokestatic i, 3)) (hd1 : 1 ≤ d) (hw1 : Cond.methodLink M.1.cls i Lib.Math.max.name ∈ sm_G) (hw2 : Cond.static Lib.Math.max.name ∈ sm_G) (hw3 : Cond.initialized "java/lang/Math" ∈ sm_G) (hw4 : Cond.code Lib.Math.max.name Lib.Math.max.code 2 (some .int) ∈ sm_G) : sm_Sd M d pc (pc + 3) i_mx := by
  intro p l e R s m args below meth c b ba D dA hC al rc rs Q L st L' st' h h' ob hF ho hk
  unfold i_mx at hF
  split at hF
  · rename_i y x r
    cases hc : Nat.ble (sm_sum r) 20 with
    | false => rw [hc] at hF; cases hF
    | true =>
      rw [hc] at hF
      cases hF
      have hle := Nat.le_of_ble_eq_true hc
      obtain ⟨c1, c2, c3, c4, c5, c6, c7, c8, c9, c10, c11⟩ := hC
      intro H locs cells slots ls hP hS hH hl h1 h2
      have hsm := sm_vs_sum b ba r
      unfold sm_sum at hle
      exact va_mmax c1 c2 (by rw [hl.1]; exact c3) c4 (c5 _ hw1) (c5 _ hw2) (c5 _ hw3) (c5 _ hw4) (by omega) (by show ((sm_vs b ba r).map fun v => v.category).sum + 13 ≤ R.locals; rw [hsm]; omega) (by omega) (by omega) hd (hk H locs cells slots ls hP hS hH hl h1 h2)
  · cases hF
theorem sd_mmin {i : Nat} (hd : decode M.2.1 pc = .ok (.invokestatic i, 3)) (hd1 : 1 ≤ d) (hw1 : Cond.methodLink M.1.cls i Lib.Math.min.name ∈ sm_G) (hw2 : Cond.static Lib.Math.min.name ∈ sm_G) (hw3 : Cond.initialized "java/lang/Math" ∈ sm_G) (hw4 : Cond.code Lib.Math.min.name Lib.Math.min.code 2 (some .int) ∈ sm_G) : sm_Sd M d pc (pc + 3) i_mn := by
  intro p l e R s m args below meth c b ba D dA hC al rc rs Q L st L' st' h h' ob hF ho hk
  unfold i_mn at hF
  split at hF
  · rename_i y x r
    cases hc : Nat.ble (sm_sum r) 20 with
    | false => rw [hc] at hF; cases hF
    | true =>
      rw [hc] at hF
      cases hF
      have hle := Nat.le_of_ble_eq_true hc
      obtain ⟨c1, c2, c3, c4, c5, c6, c7, c8, c9, c10, c11⟩ := hC
      intro H locs cells slots ls hP hS hH hl h1 h2
      have hsm := sm_vs_sum b ba r
      unfold sm_sum at hle
      exact va_mmin c1 c2 (by rw [hl.1]; exact c3) c4 (c5 _ hw1) (c5 _ hw2) (c5 _ hw3) (c5 _ hw4) (by omega) (by show ((sm_vs b ba r).map fun v => v.category).sum + 13 ≤ R.locals; rw [hsm]; omega) (by omega) (by omega) hd (hk H locs cells slots ls hP hS hH hl h1 h2)
  · cases hF
theorem sd_mabs {i : Nat} (hd : decode M.2.1 pc = .ok (.invokestatic i, 3)) (hd1 : 1 ≤ d) (hw1 : Cond.methodLink M.1.cls i Lib.Math.abs.name ∈ sm_G) (hw2 : Cond.static Lib.Math.abs.name ∈ sm_G) (hw3 : Cond.initialized "java/lang/Math" ∈ sm_G) (hw4 : Cond.code Lib.Math.abs.name Lib.Math.abs.code 1 (some .int) ∈ sm_G) : sm_Sd M d pc (pc + 3) i_ab := by
  intro p l e R s m args below meth c b ba D dA hC al rc rs Q L st L' st' h h' ob hF ho hk
  unfold i_ab at hF
  split at hF
  · rename_i x r
    cases hc : Nat.ble (sm_sum r) 20 with
    | false => rw [hc] at hF; cases hF
    | true =>
      rw [hc] at hF
      cases hF
      have hle := Nat.le_of_ble_eq_true hc
      obtain ⟨c1, c2, c3, c4, c5, c6, c7, c8, c9, c10, c11⟩ := hC
      intro H locs cells slots ls hP hS hH hl h1 h2
      have hsm := sm_vs_sum b ba r
      unfold sm_sum at hle
      exact va_mabs c1 c2 (by rw [hl.1]; exact c3) c4 (c5 _ hw1) (c5 _ hw2) (c5 _ hw3) (c5 _ hw4) (by omega) (by show ((sm_vs b ba r).map fun v => v.category).sum + 13 ≤ R.locals; rw [hsm]; omega) (by omega) (by omega) hd (hk H locs cells slots ls hP hS hH hl h1 h2)
  · cases hF
end SMI
section SMB
variable {M : sm_M} {d pc : Nat} {p : Program} {l : Launch} {e : Env} {R : Room} {s : State} {m : MethodId} {args : Array Value} {below : List Frame} {meth : Method} {c : Code} {b ba : Nat} {D : va_G} {dA : Nat → ClassId} {al : Bool} {rc rs : Nat} {Q : State → Prop} {L st : List Value} {h : sm_H}
theorem jm_goto {off : Int} {tgt : Nat} (hC : sm_C p R s m args meth c M d D dA) (hd : decode M.2.1 pc = .ok (.goto off, 3)) (ht : (pc : Int) + off = (tgt : Int)) (k : sm_At p l e R s m args below meth c b ba D dA M.2.2.1 al rc rs Q tgt L st h) : sm_At p l e R s m args below meth c b ba D dA M.2.2.1 al rc rs Q pc L st h := by
  intro H locs cells slots ls hP hS hH hl h1 h2
  exact lv_goto hC.1 hC.2.1 hd ht (k H locs cells slots ls hP hS hH hl h1 h2)
theorem jm_if_eq {off : Int} {tgt : Nat} {x : Int32} (hC : sm_C p R s m args meth c M d D dA) (hd : decode M.2.1 pc = .ok (.ifCond .eq off, 3)) (ht : (pc : Int) + off = (tgt : Int)) (kt : x = 0 → sm_At p l e R s m args below meth c b ba D dA M.2.2.1 al rc rs Q tgt L st h) (kf : ¬ x = 0 → sm_At p l e R s m args below meth c b ba D dA M.2.2.1 al rc rs Q (pc + 3) L st h) : sm_At p l e R s m args below meth c b ba D dA M.2.2.1 al rc rs Q pc L (.int x :: st) h := by
  intro H locs cells slots ls hP hS hH hl h1 h2
  exact lv_if_eq hC.1 hC.2.1 hd ht (fun q => kt q H locs cells slots ls hP hS hH hl h1 h2) (fun q => kf q H locs cells slots ls hP hS hH hl h1 h2)
theorem jm_icmp_eq {off : Int} {tgt : Nat} {x y : Int32} (hC : sm_C p R s m args meth c M d D dA) (hd : decode M.2.1 pc = .ok (.if_icmp .eq off, 3)) (ht : (pc : Int) + off = (tgt : Int)) (kt : x = y → sm_At p l e R s m args below meth c b ba D dA M.2.2.1 al rc rs Q tgt L st h) (kf : ¬ x = y → sm_At p l e R s m args below meth c b ba D dA M.2.2.1 al rc rs Q (pc + 3) L st h) : sm_At p l e R s m args below meth c b ba D dA M.2.2.1 al rc rs Q pc L (.int y :: .int x :: st) h := by
  intro H locs cells slots ls hP hS hH hl h1 h2
  exact lv_icmp_eq hC.1 hC.2.1 hd ht (fun q => kt q H locs cells slots ls hP hS hH hl h1 h2) (fun q => kf q H locs cells slots ls hP hS hH hl h1 h2)
theorem jm_if_ne {off : Int} {tgt : Nat} {x : Int32} (hC : sm_C p R s m args meth c M d D dA) (hd : decode M.2.1 pc = .ok (.ifCond .ne off, 3)) (ht : (pc : Int) + off = (tgt : Int)) (kt : ¬ x = 0 → sm_At p l e R s m args below meth c b ba D dA M.2.2.1 al rc rs Q tgt L st h) (kf : x = 0 → sm_At p l e R s m args below meth c b ba D dA M.2.2.1 al rc rs Q (pc + 3) L st h) : sm_At p l e R s m args below meth c b ba D dA M.2.2.1 al rc rs Q pc L (.int x :: st) h := by
  intro H locs cells slots ls hP hS hH hl h1 h2
  exact lv_if_ne hC.1 hC.2.1 hd ht (fun q => kt q H locs cells slots ls hP hS hH hl h1 h2) (fun q => kf q H locs cells slots ls hP hS hH hl h1 h2)
theorem jm_icmp_ne {off : Int} {tgt : Nat} {x y : Int32} (hC : sm_C p R s m args meth c M d D dA) (hd : decode M.2.1 pc = .ok (.if_icmp .ne off, 3)) (ht : (pc : Int) + off = (tgt : Int)) (kt : ¬ x = y → sm_At p l e R s m args below meth c b ba D dA M.2.2.1 al rc rs Q tgt L st h) (kf : x = y → sm_At p l e R s m args below meth c b ba D dA M.2.2.1 al rc rs Q (pc + 3) L st h) : sm_At p l e R s m args below meth c b ba D dA M.2.2.1 al rc rs Q pc L (.int y :: .int x :: st) h := by
  intro H locs cells slots ls hP hS hH hl h1 h2
  exact lv_icmp_ne hC.1 hC.2.1 hd ht (fun q => kt q H locs cells slots ls hP hS hH hl h1 h2) (fun q => kf q H locs cells slots ls hP hS hH hl h1 h2)
theorem jm_if_lt {off : Int} {tgt : Nat} {x : Int32} (hC : sm_C p R s m args meth c M d D dA) (hd : decode M.2.1 pc = .ok (.ifCond .lt off, 3)) (ht : (pc : Int) + off = (tgt : Int)) (kt : x < 0 → sm_At p l e R s m args below meth c b ba D dA M.2.2.1 al rc rs Q tgt L st h) (kf : ¬ x < 0 → sm_At p l e R s m args below meth c b ba D dA M.2.2.1 al rc rs Q (pc + 3) L st h) : sm_At p l e R s m args below meth c b ba D dA M.2.2.1 al rc rs Q pc L (.int x :: st) h := by
  intro H locs cells slots ls hP hS hH hl h1 h2
  exact lv_if_lt hC.1 hC.2.1 hd ht (fun q => kt q H locs cells slots ls hP hS hH hl h1 h2) (fun q => kf q H locs cells slots ls hP hS hH hl h1 h2)
theorem jm_icmp_lt {off : Int} {tgt : Nat} {x y : Int32} (hC : sm_C p R s m args meth c M d D dA) (hd : decode M.2.1 pc = .ok (.if_icmp .lt off, 3)) (ht : (pc : Int) + off = (tgt : Int)) (kt : x < y → sm_At p l e R s m args below meth c b ba D dA M.2.2.1 al rc rs Q tgt L st h) (kf : ¬ x < y → sm_At p l e R s m args below meth c b ba D dA M.2.2.1 al rc rs Q (pc + 3) L st h) : sm_At p l e R s m args below meth c b ba D dA M.2.2.1 al rc rs Q pc L (.int y :: .int x :: st) h := by
  intro H locs cells slots ls hP hS hH hl h1 h2
  exact lv_icmp_lt hC.1 hC.2.1 hd ht (fun q => kt q H locs cells slots ls hP hS hH hl h1 h2) (fun q => kf q H locs cells slots ls hP hS hH hl h1 h2)
theorem jm_if_ge {off : Int} {tgt : Nat} {x : Int32} (hC : sm_C p R s m args meth c M d D dA) (hd : decode M.2.1 pc = .ok (.ifCond .ge off, 3)) (ht : (pc : Int) + off = (tgt : Int)) (kt : 0 ≤ x → sm_At p l e R s m args below meth c b ba D dA M.2.2.1 al rc rs Q tgt L st h) (kf : ¬ 0 ≤ x → sm_At p l e R s m args below meth c b ba D dA M.2.2.1 al rc rs Q (pc + 3) L st h) : sm_At p l e R s m args below meth c b ba D dA M.2.2.1 al rc rs Q pc L (.int x :: st) h := by
  intro H locs cells slots ls hP hS hH hl h1 h2
  exact lv_if_ge hC.1 hC.2.1 hd ht (fun q => kt q H locs cells slots ls hP hS hH hl h1 h2) (fun q => kf q H locs cells slots ls hP hS hH hl h1 h2)
theorem jm_icmp_ge {off : Int} {tgt : Nat} {x y : Int32} (hC : sm_C p R s m args meth c M d D dA) (hd : decode M.2.1 pc = .ok (.if_icmp .ge off, 3)) (ht : (pc : Int) + off = (tgt : Int)) (kt : y ≤ x → sm_At p l e R s m args below meth c b ba D dA M.2.2.1 al rc rs Q tgt L st h) (kf : ¬ y ≤ x → sm_At p l e R s m args below meth c b ba D dA M.2.2.1 al rc rs Q (pc + 3) L st h) : sm_At p l e R s m args below meth c b ba D dA M.2.2.1 al rc rs Q pc L (.int y :: .int x :: st) h := by
  intro H locs cells slots ls hP hS hH hl h1 h2
  exact lv_icmp_ge hC.1 hC.2.1 hd ht (fun q => kt q H locs cells slots ls hP hS hH hl h1 h2) (fun q => kf q H locs cells slots ls hP hS hH hl h1 h2)
theorem jm_if_gt {off : Int} {tgt : Nat} {x : Int32} (hC : sm_C p R s m args meth c M d D dA) (hd : decode M.2.1 pc = .ok (.ifCond .gt off, 3)) (ht : (pc : Int) + off = (tgt : Int)) (kt : 0 < x → sm_At p l e R s m args below meth c b ba D dA M.2.2.1 al rc rs Q tgt L st h) (kf : ¬ 0 < x → sm_At p l e R s m args below meth c b ba D dA M.2.2.1 al rc rs Q (pc + 3) L st h) : sm_At p l e R s m args below meth c b ba D dA M.2.2.1 al rc rs Q pc L (.int x :: st) h := by
  intro H locs cells slots ls hP hS hH hl h1 h2
  exact lv_if_gt hC.1 hC.2.1 hd ht (fun q => kt q H locs cells slots ls hP hS hH hl h1 h2) (fun q => kf q H locs cells slots ls hP hS hH hl h1 h2)
theorem jm_icmp_gt {off : Int} {tgt : Nat} {x y : Int32} (hC : sm_C p R s m args meth c M d D dA) (hd : decode M.2.1 pc = .ok (.if_icmp .gt off, 3)) (ht : (pc : Int) + off = (tgt : Int)) (kt : y < x → sm_At p l e R s m args below meth c b ba D dA M.2.2.1 al rc rs Q tgt L st h) (kf : ¬ y < x → sm_At p l e R s m args below meth c b ba D dA M.2.2.1 al rc rs Q (pc + 3) L st h) : sm_At p l e R s m args below meth c b ba D dA M.2.2.1 al rc rs Q pc L (.int y :: .int x :: st) h := by
  intro H locs cells slots ls hP hS hH hl h1 h2
  exact lv_icmp_gt hC.1 hC.2.1 hd ht (fun q => kt q H locs cells slots ls hP hS hH hl h1 h2) (fun q => kf q H locs cells slots ls hP hS hH hl h1 h2)
theorem jm_if_le {off : Int} {tgt : Nat} {x : Int32} (hC : sm_C p R s m args meth c M d D dA) (hd : decode M.2.1 pc = .ok (.ifCond .le off, 3)) (ht : (pc : Int) + off = (tgt : Int)) (kt : x ≤ 0 → sm_At p l e R s m args below meth c b ba D dA M.2.2.1 al rc rs Q tgt L st h) (kf : ¬ x ≤ 0 → sm_At p l e R s m args below meth c b ba D dA M.2.2.1 al rc rs Q (pc + 3) L st h) : sm_At p l e R s m args below meth c b ba D dA M.2.2.1 al rc rs Q pc L (.int x :: st) h := by
  intro H locs cells slots ls hP hS hH hl h1 h2
  exact lv_if_le hC.1 hC.2.1 hd ht (fun q => kt q H locs cells slots ls hP hS hH hl h1 h2) (fun q => kf q H locs cells slots ls hP hS hH hl h1 h2)
theorem jm_icmp_le {off : Int} {tgt : Nat} {x y : Int32} (hC : sm_C p R s m args meth c M d D dA) (hd : decode M.2.1 pc = .ok (.if_icmp .le off, 3)) (ht : (pc : Int) + off = (tgt : Int)) (kt : x ≤ y → sm_At p l e R s m args below meth c b ba D dA M.2.2.1 al rc rs Q tgt L st h) (kf : ¬ x ≤ y → sm_At p l e R s m args below meth c b ba D dA M.2.2.1 al rc rs Q (pc + 3) L st h) : sm_At p l e R s m args below meth c b ba D dA M.2.2.1 al rc rs Q pc L (.int y :: .int x :: st) h := by
  intro H locs cells slots ls hP hS hH hl h1 h2
  exact lv_icmp_le hC.1 hC.2.1 hd ht (fun q => kt q H locs cells slots ls hP hS hH hl h1 h2) (fun q => kf q H locs cells slots ls hP hS hH hl h1 h2)
theorem jm_tableIn {dflt lo hi : Int} {offs : Array Int} {len : Nat} {x : Int32} {off : Int} {tgt : Nat} (hC : sm_C p R s m args meth c M d D dA) (hd : decode M.2.1 pc = .ok (.tableswitch dflt lo hi offs, len)) (q1 : ¬ x.toInt < lo) (q2 : ¬ hi < x.toInt) (ho : offs[(x.toInt - lo).toNat]? = some off) (ht : (pc : Int) + off = (tgt : Int)) (k : sm_At p l e R s m args below meth c b ba D dA M.2.2.1 al rc rs Q tgt L st h) : sm_At p l e R s m args below meth c b ba D dA M.2.2.1 al rc rs Q pc L (.int x :: st) h := by
  intro H locs cells slots ls hP hS hH hl h1 h2
  exact lv_tableIn hC.1 hC.2.1 hd q1 q2 ho ht (k H locs cells slots ls hP hS hH hl h1 h2)
theorem jm_tableOut {dflt lo hi : Int} {offs : Array Int} {len : Nat} {x : Int32} {tgt : Nat} (hC : sm_C p R s m args meth c M d D dA) (hd : decode M.2.1 pc = .ok (.tableswitch dflt lo hi offs, len)) (q1 : x.toInt < lo ∨ hi < x.toInt) (ht : (pc : Int) + dflt = (tgt : Int)) (k : sm_At p l e R s m args below meth c b ba D dA M.2.2.1 al rc rs Q tgt L st h) : sm_At p l e R s m args below meth c b ba D dA M.2.2.1 al rc rs Q pc L (.int x :: st) h := by
  intro H locs cells slots ls hP hS hH hl h1 h2
  exact lv_tableOut hC.1 hC.2.1 hd q1 ht (k H locs cells slots ls hP hS hH hl h1 h2)
theorem jm_blk {pc1 : Nat} {F : sm_F} {L' st' : List Value} {h' : sm_H} {ob : sm_O} (hC : sm_C p R s m args meth c M d D dA) (hb : sm_Sd M d pc pc1 F) (hF : F L st h = some (L', st', h', ob)) (ho : ∀ o ∈ ob, vp_in o.1 o.2) (k : sm_At p l e R s m args below meth c b ba D dA M.2.2.1 al rc rs Q pc1 L' st' h') : sm_At p l e R s m args below meth c b ba D dA M.2.2.1 al rc rs Q pc L st h :=
  hb p l e R s m args below meth c b ba D dA hC al rc rs Q L st L' st' h h' ob hF ho k
end SMB
