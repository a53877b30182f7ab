/-! THE STEADY STATE: no method makes a cell; a goal is a place in a method's body with the end that it comes to -/
abbrev sm_S : Type := (Nat → Nat → Int32) × (Nat → Nat → Int64)
def sm_W (l : Launch) (M : sm_M) (d : Nat) (al : Bool) (r : Option Value × sm_H) (pc : Nat) (L st : List Value) (h : sm_H) : Prop :=
  ∀ (p : Program) (e : Env) (s : State) (m : MethodId) (args : Array Value) (below : List Frame) (meth : Method) (c : Code) (b ba : Nat) (D : va_G) (dA : Nat → ClassId), sm_C p (sm_rm d 0 0) s m args meth c M d D dA →
    sm_At p l e (sm_rm d 0 0) s m args below meth c b ba D dA M.2.2.1 al 0 0 (MQ below (sm_Qc b ba D dA al r) args s 0 0 (fun q => ba ≤ q)) pc L st h
def sm_mk : List Bool → List Value → List Value
  | _, [] => []
  | [], L => L
  | k :: ks, v :: t => cond k v (.retAddr 0) :: sm_mk ks t
theorem sm_mk_get : ∀ (ks : List Bool) (L : List Value) (j : Nat) (v : Value), (sm_mk ks L)[j]? = some v → v ≠ .retAddr 0 → L[j]? = some v
  | _, [], j, v, h, _ => by
    unfold sm_mk at h
    simp at h
  | [], w :: t, j, v, h, _ => by
    unfold sm_mk at h
    exact h
  | k :: ks, w :: t, 0, v, h, hv => by
    have h1 : cond k w (.retAddr 0) = v := Option.some.inj h
    cases k with
    | true => exact congrArg some h1
    | false => exact absurd h1.symm hv
  | k :: ks, w :: t, j + 1, v, h, hv => by
    have h1 : (sm_mk ks t)[j]? = some v := h
    show t[j]? = some v
    exact sm_mk_get ks t j v h1 hv
theorem sm_At.wk {p : Program} {l : Launch} {e : Env} {R : Room} {s : State} {m : MethodId} {args : Array Value} {below : List Frame} {meth : Method} {c : Code} {b ba : Nat} {D : va_G} {dA : Nat → ClassId} {nL : Nat} {al : Bool} {rc rs : Nat} {Q : State → Prop} {pc : Nat} {L st : List Value} {h : sm_H} (ks : List Bool)
    (k : sm_At p l e R s m args below meth c b ba D dA nL al rc rs Q pc (sm_mk ks L) st h) : sm_At p l e R s m args below meth c b ba D dA nL al rc rs Q pc L st h := by
  intro H locs cells slots ls hP hS hH hl h1 h2
  refine k H locs cells slots ls hP hS hH ⟨hl.1, hl.2.1, fun q hq => ?_⟩ h1 h2
  obtain ⟨j, v, hj, hv, rfl⟩ := sm_pr_mem.mp hq
  exact hl.2.2 _ (sm_pr_mem.mpr ⟨j, v, sm_mk_get ks L j v hj hv, hv, rfl⟩)
theorem sm_Rt.ofW {l : Launch} {M : sm_M} {d : Nat} {al : Bool} {as L : List Value} {h : sm_H} {r : Option Value × sm_H} (hpl : plainName M.1.cls = true) (hlen : (sm_ar as).length ≤ M.2.2.1) (hL : sm_e0 as M.2.2.1 = L) (k : sm_W l M d al r 0 L [] h) : sm_Rt l M d 0 0 al al as h r := by
  refine sm_Rt.of hpl hlen ?_
  intro p e s m args below meth c b ba D dA hC
  rw [hL]
  exact k p e s m args below meth c b ba D dA hC
/-- obligations: indices within -/
abbrev sm_ix (i : Int32) (n : Nat) : Prop := 0 ≤ i ∧ i.toNatClampNeg < n
theorem sm_ix_vp {i : Int32} {n : Nat} (h : sm_ix i n) : vp_in i n := by
  rintro (q | q)
  · exact absurd q (Int32.not_lt.mpr h.1)
  · exact absurd h.2 (Nat.not_lt.mpr q)
theorem sm_on : ∀ o ∈ ([] : sm_O), vp_in o.1 o.2 := fun _ h => absurd h List.not_mem_nil
theorem sm_oc {i : Int32} {n : Nat} {l : sm_O} (h : sm_ix i n) (hl : ∀ o ∈ l, vp_in o.1 o.2) : ∀ o ∈ ((i, n) :: l), vp_in o.1 o.2 := by
  intro o ho
  rcases List.mem_cons.mp ho with h1 | h1
  · rw [h1]; exact sm_ix_vp h
  · exact hl o h1
theorem sm_ck {α : Type} {c : Prop} [Decidable c] {a : Option α} {r : α} (h : (if c then a else none) = some r) : c ∧ a = some r := by
  by_cases hc : c
  · rw [if_pos hc] at h; exact ⟨hc, h⟩
  · rw [if_neg hc] at h; cases h
theorem sm_bd {α β : Type} {o : Option α} {k : α → Option β} {r : β} (h : o.bind k = some r) : ∃ x, o = some x ∧ k x = some r := by
  cases o with
  | none => cases h
  | some x => exact ⟨x, rfl, h⟩
theorem sm_tab {x : Int32} {n : Nat} (xs : List Int32) (hxs : ∀ k, k < n + 1 → (xs[k]?).map Int32.toInt = some (k : Int)) (hne : ∀ v ∈ xs, ¬ x = v) : x.toInt < 0 ∨ (n : Int) < x.toInt := by
  by_cases h1 : x.toInt < 0
  · exact Or.inl h1
  · refine Or.inr ?_
    by_cases h2 : (n : Int) < x.toInt
    · exact h2
    · have hq := hxs x.toInt.toNat (by omega)
      obtain ⟨v, hv, he⟩ := Option.map_eq_some_iff.mp hq
      exact absurd (Int32.toInt_inj.mp (by rw [he]; omega)) (hne v (List.mem_of_getElem? hv))
theorem sm_ift {α : Type} {c : Prop} [Decidable c] {a b r : α} (hc : c) (h : (if c then a else b) = r) : a = r := by rw [if_pos hc] at h; exact h
theorem sm_iff {α : Type} {c : Prop} [Decidable c] {a b r : α} (hc : ¬ c) (h : (if c then a else b) = r) : b = r := by rw [if_neg hc] at h; exact h
def sm_fu : Nat := 200000
theorem sm_nb0 : narrow .boolean (.int 0) = .int 0 := by decide
theorem sm_nb1 : narrow .boolean (.int 1) = .int 1 := by decide
theorem sm_pk {ws : List Cond} (ps : List Nat) (hp : ws = ps.filterMap (fun i => lw_tbl[i]?)) (hg : ws.all goodWord = true) : ∀ w ∈ ws, w ∈ sm_G := by
  intro w hw
  have h1 := List.all_eq_true.mp hg w hw
  rw [hp] at hw
  obtain ⟨i, -, hi⟩ := List.mem_filterMap.mp hw
  exact sm_in i hi h1
def sm_w1 (m : sm_S) (a k : Nat) (v : Int32) : sm_S := (sm_u m.1 a k v, m.2)
def sm_w2 (m : sm_S) (a k : Nat) (v : Int64) : sm_S := (m.1, sm_u m.2 a k v)
section SMW
variable {l : Launch} {M : sm_M} {d : Nat} {al : Bool} {r : Option Value × sm_H} {pc : Nat} {L st : List Value} {h : sm_H}
theorem w_wk (ks : List Bool) (k : sm_W l M d al r pc (sm_mk ks L) st h) : sm_W l M d al r pc L st h := fun p e s m args below meth c b ba D dA hC => sm_At.wk ks (k p e s m args below meth c b ba D dA hC)
theorem w_blk {pc1 : Nat} {F : sm_F} (hb : sm_Sd M d pc pc1 F) (L' st' : List Value) (h' : sm_H) (ob : sm_O) (hF : F L st h = some (L', st', h', ob)) (ho : ∀ o ∈ ob, vp_in o.1 o.2) (k : sm_W l M d al r pc1 L' st' h') : sm_W l M d al r pc L st h :=
  fun p e s m args below meth c b ba D dA hC => jm_blk hC hb hF ho (k p e s m args below meth c b ba D dA hC)
theorem w_goto {off : Int} {tgt : Nat} (hd : decode M.2.1 pc = .ok (.goto off, 3)) (ht : (pc : Int) + off = (tgt : Int)) (k : sm_W l M d al r tgt L st h) : sm_W l M d al r pc L st h :=
  fun p e s m args below meth c b ba D dA hC => jm_goto hC hd ht (k p e s m args below meth c b ba D dA hC)
theorem w_if_eq {off : Int} {tgt : Nat} {x : Int32} (hd : decode M.2.1 pc = .ok (.ifCond .eq off, 3)) (ht : (pc : Int) + off = (tgt : Int)) (kt : x = 0 → sm_W l M d al r tgt L st h) (kf : ¬ x = 0 → sm_W l M d al r (pc + 3) L st h) : sm_W l M d al r pc L (.int x :: st) h := fun p e s m args below meth c b ba D dA hC => jm_if_eq hC hd ht (fun q => kt q p e s m args below meth c b ba D dA hC) (fun q => kf q p e s m args below meth c b ba D dA hC)
theorem w_icmp_eq {off : Int} {tgt : Nat} {x y : Int32} (hd : decode M.2.1 pc = .ok (.if_icmp .eq off, 3)) (ht : (pc : Int) + off = (tgt : Int)) (kt : x = y → sm_W l M d al r tgt L st h) (kf : ¬ x = y → sm_W l M d al r (pc + 3) L st h) : sm_W l M d al r pc L (.int y :: .int x :: st) h := fun p e s m args below meth c b ba D dA hC => jm_icmp_eq hC hd ht (fun q => kt q p e s m args below meth c b ba D dA hC) (fun q => kf q p e s m args below meth c b ba D dA hC)
theorem w_if_ne {off : Int} {tgt : Nat} {x : Int32} (hd : decode M.2.1 pc = .ok (.ifCond .ne off, 3)) (ht : (pc : Int) + off = (tgt : Int)) (kt : ¬ x = 0 → sm_W l M d al r tgt L st h) (kf : x = 0 → sm_W l M d al r (pc + 3) L st h) : sm_W l M d al r pc L (.int x :: st) h := fun p e s m args below meth c b ba D dA hC => jm_if_ne hC hd ht (fun q => kt q p e s m args below meth c b ba D dA hC) (fun q => kf q p e s m args below meth c b ba D dA hC)
theorem w_icmp_ne {off : Int} {tgt : Nat} {x y : Int32} (hd : decode M.2.1 pc = .ok (.if_icmp .ne off, 3)) (ht : (pc : Int) + off = (tgt : Int)) (kt : ¬ x = y → sm_W l M d al r tgt L st h) (kf : x = y → sm_W l M d al r (pc + 3) L st h) : sm_W l M d al r pc L (.int y :: .int x :: st) h := fun p e s m args below meth c b ba D dA hC => jm_icmp_ne hC hd ht (fun q => kt q p e s m args below meth c b ba D dA hC) (fun q => kf q p e s m args below meth c b ba D dA hC)
theorem w_if_lt {off : Int} {tgt : Nat} {x : Int32} (hd : decode M.2.1 pc = .ok (.ifCond .lt off, 3)) (ht : (pc : Int) + off = (tgt : Int)) (kt : x < 0 → sm_W l M d al r tgt L st h) (kf : ¬ x < 0 → sm_W l M d al r (pc + 3) L st h) : sm_W l M d al r pc L (.int x :: st) h := fun p e s m args below meth c b ba D dA hC => jm_if_lt hC hd ht (fun q => kt q p e s m args below meth c b ba D dA hC) (fun q => kf q p e s m args below meth c b ba D dA hC)
theorem w_icmp_lt {off : Int} {tgt : Nat} {x y : Int32} (hd : decode M.2.1 pc = .ok (.if_icmp .lt off, 3)) (ht : (pc : Int) + off = (tgt : Int)) (kt : x < y → sm_W l M d al r tgt L st h) (kf : ¬ x < y → sm_W l M d al r (pc + 3) L st h) : sm_W l M d al r pc L (.int y :: .int x :: st) h := fun p e s m args below meth c b ba D dA hC => jm_icmp_lt hC hd ht (fun q => kt q p e s m args below meth c b ba D dA hC) (fun q => kf q p e s m args below meth c b ba D dA hC)
theorem w_if_ge {off : Int} {tgt : Nat} {x : Int32} (hd : decode M.2.1 pc = .ok (.ifCond .ge off, 3)) (ht : (pc : Int) + off = (tgt : Int)) (kt : 0 ≤ x → sm_W l M d al r tgt L st h) (kf : ¬ 0 ≤ x → sm_W l M d al r (pc + 3) L st h) : sm_W l M d al r pc L (.int x :: st) h := fun p e s m args below meth c b ba D dA hC => jm_if_ge hC hd ht (fun q => kt q p e s m args below meth c b ba D dA hC) (fun q => kf q p e s m args below meth c b ba D dA hC)
theorem w_icmp_ge {off : Int} {tgt : Nat} {x y : Int32} (hd : decode M.2.1 pc = .ok (.if_icmp .ge off, 3)) (ht : (pc : Int) + off = (tgt : Int)) (kt : y ≤ x → sm_W l M d al r tgt L st h) (kf : ¬ y ≤ x → sm_W l M d al r (pc + 3) L st h) : sm_W l M d al r pc L (.int y :: .int x :: st) h := fun p e s m args below meth c b ba D dA hC => jm_icmp_ge hC hd ht (fun q => kt q p e s m args below meth c b ba D dA hC) (fun q => kf q p e s m args below meth c b ba D dA hC)
theorem w_if_gt {off : Int} {tgt : Nat} {x : Int32} (hd : decode M.2.1 pc = .ok (.ifCond .gt off, 3)) (ht : (pc : Int) + off = (tgt : Int)) (kt : 0 < x → sm_W l M d al r tgt L st h) (kf : ¬ 0 < x → sm_W l M d al r (pc + 3) L st h) : sm_W l M d al r pc L (.int x :: st) h := fun p e s m args below meth c b ba D dA hC => jm_if_gt hC hd ht (fun q => kt q p e s m args below meth c b ba D dA hC) (fun q => kf q p e s m args below meth c b ba D dA hC)
theorem w_icmp_gt {off : Int} {tgt : Nat} {x y : Int32} (hd : decode M.2.1 pc = .ok (.if_icmp .gt off, 3)) (ht : (pc : Int) + off = (tgt : Int)) (kt : y < x → sm_W l M d al r tgt L st h) (kf : ¬ y < x → sm_W l M d al r (pc + 3) L st h) : sm_W l M d al r pc L (.int y :: .int x :: st) h := fun p e s m args below meth c b ba D dA hC => jm_icmp_gt hC hd ht (fun q => kt q p e s m args below meth c b ba D dA hC) (fun q => kf q p e s m args below meth c b ba D dA hC)
theorem w_if_le {off : Int} {tgt : Nat} {x : Int32} (hd : decode M.2.1 pc = .ok (.ifCond .le off, 3)) (ht : (pc : Int) + off = (tgt : Int)) (kt : x ≤ 0 → sm_W l M d al r tgt L st h) (kf : ¬ x ≤ 0 → sm_W l M d al r (pc + 3) L st h) : sm_W l M d al r pc L (.int x :: st) h := fun p e s m args below meth c b ba D dA hC => jm_if_le hC hd ht (fun q => kt q p e s m args below meth c b ba D dA hC) (fun q => kf q p e s m args below meth c b ba D dA hC)
theorem w_icmp_le {off : Int} {tgt : Nat} {x y : Int32} (hd : decode M.2.1 pc = .ok (.if_icmp .le off, 3)) (ht : (pc : Int) + off = (tgt : Int)) (kt : x ≤ y → sm_W l M d al r tgt L st h) (kf : ¬ x ≤ y → sm_W l M d al r (pc + 3) L st h) : sm_W l M d al r pc L (.int y :: .int x :: st) h := fun p e s m args below meth c b ba D dA hC => jm_icmp_le hC hd ht (fun q => kt q p e s m args below meth c b ba D dA hC) (fun q => kf q p e s m args below meth c b ba D dA hC)
theorem w_tableIn {dflt lo hi : Int} {offs : Array Int} {len : Nat} {x : Int32} {off : Int} {tgt : Nat} (hd : decode M.2.1 pc = .ok (.tableswitch dflt lo hi offs, len)) (q1 : ¬ x.toInt < lo) (q2 : ¬ hi < x.toInt) (ho : offs[(x.toInt - lo).toNat]? = some off) (ht : (pc : Int) + off = (tgt : Int)) (k : sm_W l M d al r tgt L st h) : sm_W l M d al r pc L (.int x :: st) h := fun p e s m args below meth c b ba D dA hC => jm_tableIn hC hd q1 q2 ho ht (k p e s m args below meth c b ba D dA hC)
theorem w_tableOut {dflt lo hi : Int} {offs : Array Int} {len : Nat} {x : Int32} {tgt : Nat} (hd : decode M.2.1 pc = .ok (.tableswitch dflt lo hi offs, len)) (q1 : x.toInt < lo ∨ hi < x.toInt) (ht : (pc : Int) + dflt = (tgt : Int)) (k : sm_W l M d al r tgt L st h) : sm_W l M d al r pc L (.int x :: st) h := fun p e s m args below meth c b ba D dA hC => jm_tableOut hC hd q1 ht (k p e s m args below meth c b ba D dA hC)
theorem w_retv (hd : decode M.2.1 pc = .ok (.return_, 1)) (hr : M.2.2.2 = none) : sm_W l M d al (none, h) pc L [] h := fun p e s m args below meth c b ba D dA hC => jm_retv hC hd hr id
theorem w_reti {v : Int32} {ty : FieldType} (hd : decode M.2.1 pc = .ok (.ireturn, 1)) (hr : M.2.2.2 = some ty) (hn : narrow ty (.int v) = .int v) : sm_W l M d al (some (.int v), h) pc L [.int v] h := fun p e s m args below meth c b ba D dA hC => jm_reti hC hd hr hn id
theorem w_retl {v : Int64} (hd : decode M.2.1 pc = .ok (.lreturn, 1)) (hr : M.2.2.2 = some .long) : sm_W l M d al (some (.long v), h) pc L [.long v] h := fun p e s m args below meth c b ba D dA hC => jm_retl hC hd hr id
/-- what the tables say of a call of an instance method, of a static one -/
abbrev sm_cV (M Y : sm_M) (idx n ci N : Nat) (C : String) (T : u_T) (ty : Nat → FieldType) : Prop := sm_Cl ci N C T ty ∧ Y.1.cls = C ∧ sm_Cn Y n ∧ Cond.methodLink M.1.cls idx Y.1 ∈ sm_G ∧ Cond.instanceMethod Y.1 ∈ sm_G ∧ Cond.selects C Y.1 Y.1 ∈ sm_G ∧ Cond.initialized Y.1.cls ∈ sm_G ∧ sm_Cw Y
abbrev sm_cS (M Y : sm_M) (idx n : Nat) : Prop := sm_Cn Y n ∧ Cond.methodLink M.1.cls idx Y.1 ∈ sm_G ∧ Cond.static Y.1 ∈ sm_G ∧ Cond.initialized Y.1.cls ∈ sm_G ∧ sm_Cw Y
theorem w_callV {Y : sm_M} {dY idx a ci N n : Nat} {C : String} {T : u_T} {ty : Nat → FieldType} (As : List Value) (st0 : List Value) {q : Option Value × sm_H} (hR : sm_Rt l Y dY 0 0 al al (.ref a :: As) h q) (hw : sm_cV M Y idx n ci N C T ty) (hd : decode M.2.1 pc = .ok (.invokevirtual idx, 3)) (hst : st = As.reverse ++ .ref a :: st0) (hA : As.length = n) (hdd : dY + 1 ≤ d) (hml : Y.2.2.1 ≤ 21) (hs : sm_is h a ci N = true) (hsum : sm_sum st0 ≤ 8)
    (k : sm_W l M d al r (pc + 3) L (q.1.toList ++ st0) q.2) : sm_W l M d al r pc L st h := by
  obtain ⟨w0, wc, wn, w1, w2, w3, w4, w5⟩ := hw
  subst hst
  exact fun p e s m args below meth c b ba D dA hC => jm_callV hR hC w0 wc hd wn hA w1 w2 w3 w4 w5 hdd hml hs hsum (k p e s m args below meth c b ba D dA hC)
theorem w_callS {Y : sm_M} {dY idx n : Nat} (As : List Value) (st0 : List Value) {q : Option Value × sm_H} (hR : sm_Rt l Y dY 0 0 al al As h q) (hw : sm_cS M Y idx n) (hd : decode M.2.1 pc = .ok (.invokestatic idx, 3)) (hst : st = As.reverse ++ st0) (hA : As.length = n) (hdd : dY + 1 ≤ d) (hml : Y.2.2.1 ≤ 21) (hsum : sm_sum st0 ≤ 8)
    (k : sm_W l M d al r (pc + 3) L (q.1.toList ++ st0) q.2) : sm_W l M d al r pc L st h := by
  obtain ⟨wn, w1, w2, w4, w5⟩ := hw
  subst hst
  exact fun p e s m args below meth c b ba D dA hC => jm_callS hR hC hd wn hA w1 w2 w4 w5 hdd hml hsum (k p e s m args below meth c b ba D dA hC)
end SMW
