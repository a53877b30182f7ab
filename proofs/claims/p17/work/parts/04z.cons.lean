/-! CONSTRUCTORS: the same with cells made -/
def sm_V (l : Launch) (M : sm_M) (d mc ms : Nat) (r : Option Value × sm_H) (pc : Nat) (L st : List Value) (h : sm_H) (rc rs : Nat) : Prop :=
  ∀ (p : Program) (e : Env) (s : State) (m : MethodId) (args : Array Value) (below : List Frame) (meth : Method) (c : Code) (b ba : Nat) (D : va_G) (dA : Nat → ClassId), sm_C p (sm_rm d mc ms) s m args meth c M d D dA →
    sm_At p l e (sm_rm d mc ms) s m args below meth c b ba D dA M.2.2.1 true rc rs (MQ below (sm_Qc b ba D dA true r) args s mc ms (fun q => ba ≤ q)) pc L st h
theorem sm_Rt.ofV {l : Launch} {M : sm_M} {d mc ms : Nat} {as L : List Value} {h : sm_H} {r : Option Value × sm_H} (hpl : plainName M.1.cls = true) (hlen : (sm_ar as).length ≤ M.2.2.1) (hL : sm_e0 as M.2.2.1 = L) (k : sm_V l M d mc ms r 0 L [] h mc ms) : sm_Rt l M d mc ms true true as h r := by
  refine sm_Rt.of hpl hlen ?_
  intro p e s m args below meth c b ba D dA hC
  rw [hL]
  exact k p e s m args below meth c b ba D dA hC
abbrev sm_cI (M Y : sm_M) (idx n : Nat) : Prop := sm_Cn Y n ∧ Y.2.2.2 = none ∧ Y.1.name = "<init>" ∧ (Cond.methodLink M.1.cls idx Y.1 ∈ sm_G ∨ ∃ host, Cond.methodLinkNest M.1.cls idx Y.1 host ∈ sm_N) ∧ Cond.instanceMethod Y.1 ∈ sm_G ∧ Cond.initialized Y.1.cls ∈ sm_G ∧ sm_Cw Y
section SMV
variable {l : Launch} {M : sm_M} {d mc ms : Nat} {r : Option Value × sm_H} {pc : Nat} {L st : List Value} {h : sm_H} {rc rs : Nat}
theorem v_blk {pc1 : Nat} {F : sm_F} (hb : sm_Sd M d pc pc1 F) (L' st' : List Value) (h' : sm_H) (ob : sm_O) (hF : F L st h = some (L', st', h', ob)) (ho : ∀ o ∈ ob, vp_in o.1 o.2) (k : sm_V l M d mc ms r pc1 L' st' h' rc rs) : sm_V l M d mc ms r pc L st h rc rs :=
  fun p e s m args below meth c b ba D dA hC => jm_blk hC hb hF ho (k p e s m args below meth c b ba D dA hC)
theorem v_goto {off : Int} {tgt : Nat} (hd : decode M.2.1 pc = .ok (.goto off, 3)) (ht : (pc : Int) + off = (tgt : Int)) (k : sm_V l M d mc ms r tgt L st h rc rs) : sm_V l M d mc ms r pc L st h rc rs :=
  fun p e s m args below meth c b ba D dA hC => jm_goto hC hd ht (k p e s m args below meth c b ba D dA hC)
theorem v_retv (hd : decode M.2.1 pc = .ok (.return_, 1)) (hr : M.2.2.2 = none) : sm_V l M d mc ms (none, h) pc L [] h rc rs := fun p e s m args below meth c b ba D dA hC => jm_retv hC hd hr id
theorem v_obj {idx a : Nat} (hd : decode M.2.1 pc = .ok (.invokespecial idx, 3)) (hd1 : 1 ≤ d) (w1 : Cond.methodLink M.1.cls idx Lib.objectInit ∈ sm_G) (w2 : Cond.instanceMethod Lib.objectInit ∈ sm_G) (w3 : Cond.code Lib.objectInit ⟨#[0xb1]⟩ 1 none ∈ sm_G) (hsum : sm_sum st ≤ 20)
    (k : sm_V l M d mc ms r (pc + 3) L st h rc rs) : sm_V l M d mc ms r pc L (.ref a :: st) h rc rs := fun p e s m args below meth c b ba D dA hC => jm_obj hC hd hd1 w1 w2 w3 hsum (k p e s m args below meth c b ba D dA hC)
theorem v_new {ci N idx : Nat} {C : String} {T : u_T} {ty : Nat → FieldType} (rc rs : Nat) (hc : sm_Cl ci N C T ty) (hd : decode M.2.1 pc = .ok (.new idx, 3)) (w1 : Cond.classLink M.1.cls idx C ∈ sm_G) (w2 : Cond.instantiable C N ∈ sm_G) (w3 : Cond.initialized C ∈ sm_G) (hz : ∀ j, j < N → defaultValue (ty j) = cond (Nat.beq (sm_fty ci j) 9) .null (.int 0))
    (k : sm_V l M d mc ms r (pc + 3) L (.ref h.1.length :: st) (sm_nw h ci N) rc rs) : sm_V l M d mc ms r pc L st h (rc + 1) (rs + N) := fun p e s m args below meth c b ba D dA hC => jm_new hC hc hd w1 w2 w3 hz (k p e s m args below meth c b ba D dA hC)
theorem v_newi {t i0 N : Nat} {atype : ArrayType} {n : Int32} (rc rs : Nat) (hd : decode M.2.1 pc = .ok (.newarray atype, 2)) (ht : sm_tags[i0]? = some (t, newarray.typeOf atype)) (w1 : Cond.arrayClass (newarray.typeOf atype) ∈ sm_G) (hn : ¬ n < 0) (hN : n.toNatClampNeg = N) (hb8 : N * 8 ≤ 536870912)
    (hprim : ∀ (s : State) (cA : ClassId), va_RA s cA (newarray.typeOf atype) → s.vm.findClass ("[" ++ (newarray.typeOf atype).toString) = some cA) (hcb : componentBytes (newarray.typeOf atype) ≤ 8)
    (hent : ∀ (ba : Nat) (cA : ClassId), ∃ a0 : vp_A, sm_en (fun _ => cA) ba (sm_nw h t N) h.1.length (t, N) = .inl (cA, a0) ∧ (∀ dA : Nat → ClassId, sm_en dA ba (sm_nw h t N) h.1.length (t, N) = .inl (dA t, a0)) ∧ vp_cell cA a0 = arrV cA N (fun _ => defaultValue (newarray.typeOf atype)))
    (k : sm_V l M d mc ms r (pc + 2) L (.ref h.1.length :: st) (sm_nw h t N) rc rs) : sm_V l M d mc ms r pc L (.int n :: st) h (rc + 1) (rs + N) := fun p e s m args below meth c b ba D dA hC => jm_newarr hC hd ht w1 hn hN hb8 (hprim s) hcb (hent ba) (k p e s m args below meth c b ba D dA hC)
theorem v_newobj {t i0 N idx : Nat} {C : String} {n : Int32} (rc rs : Nat) (hd : decode M.2.1 pc = .ok (.anewarray idx, 3)) (ht : sm_tags[i0]? = some (t, .object C)) (t1 : Nat.blt t 100 = false) (t2 : Nat.beq t 101 = false) (t3 : Nat.blt t 150 = false) (w1 : Cond.classLink M.1.cls idx C ∈ sm_G) (w2 : C ∈ sm_ao) (hn : ¬ n < 0) (hN : n.toNatClampNeg = N) (hb8 : N * 8 ≤ 536870912)
    (k : sm_V l M d mc ms r (pc + 3) L (.ref h.1.length :: st) (sm_nw h t N) rc rs) : sm_V l M d mc ms r pc L (.int n :: st) h (rc + 1) (rs + N) := fun p e s m args below meth c b ba D dA hC => jm_newobj hC hd ht t1 t2 t3 w1 w2 hn hN hb8 (k p e s m args below meth c b ba D dA hC)
theorem v_callI {Y : sm_M} {dY idx a n mc' ms' : Nat} (As st0 : List Value) (rc rs : Nat) {q : Option Value × sm_H} (hR : sm_Rt l Y dY mc' ms' true true (.ref a :: As) h q) (hw : sm_cI M Y idx n) (hd : decode M.2.1 pc = .ok (.invokespecial idx, 3)) (hst : st = As.reverse ++ .ref a :: st0) (hA : As.length = n) (hdd : dY + 1 ≤ d) (hml : Y.2.2.1 ≤ 21) (hsum : sm_sum st0 ≤ 8)
    (k : sm_V l M d mc ms r (pc + 3) L (q.1.toList ++ st0) q.2 rc rs) : sm_V l M d mc ms r pc L st h (rc + mc') (rs + ms') := by
  obtain ⟨wn, hret, hin, w1, w2, w4, w5⟩ := hw
  subst hst
  rcases w1 with w1 | ⟨host, w1⟩
  · exact fun p e s m args below meth c b ba D dA hC => jm_callI hR hC hd wn hA hret hin w1 w2 w4 w5 hdd hml hsum (k p e s m args below meth c b ba D dA hC)
  · exact fun p e s m args below meth c b ba D dA hC => jm_callIN hR hC hd wn hA hret hin w1 w2 w4 w5 hdd hml hsum (k p e s m args below meth c b ba D dA hC)
theorem v_if_eq {off : Int} {tgt : Nat} {x : Int32} (hd : decode M.2.1 pc = .ok (.ifCond .eq off, 3)) (ht : (pc : Int) + off = (tgt : Int)) (kt : x = 0 → sm_V l M d mc ms r tgt L st h rc rs) (kf : ¬ x = 0 → sm_V l M d mc ms r (pc + 3) L st h rc rs) : sm_V l M d mc ms r pc L (.int x :: st) h rc rs := fun p e s m args below meth c b ba D dA hC => jm_if_eq hC hd ht (fun q => kt q p e s m args below meth c b ba D dA hC) (fun q => kf q p e s m args below meth c b ba D dA hC)
theorem v_icmp_eq {off : Int} {tgt : Nat} {x y : Int32} (hd : decode M.2.1 pc = .ok (.if_icmp .eq off, 3)) (ht : (pc : Int) + off = (tgt : Int)) (kt : x = y → sm_V l M d mc ms r tgt L st h rc rs) (kf : ¬ x = y → sm_V l M d mc ms r (pc + 3) L st h rc rs) : sm_V l M d mc ms r pc L (.int y :: .int x :: st) h rc rs := fun p e s m args below meth c b ba D dA hC => jm_icmp_eq hC hd ht (fun q => kt q p e s m args below meth c b ba D dA hC) (fun q => kf q p e s m args below meth c b ba D dA hC)
theorem v_if_ne {off : Int} {tgt : Nat} {x : Int32} (hd : decode M.2.1 pc = .ok (.ifCond .ne off, 3)) (ht : (pc : Int) + off = (tgt : Int)) (kt : ¬ x = 0 → sm_V l M d mc ms r tgt L st h rc rs) (kf : x = 0 → sm_V l M d mc ms r (pc + 3) L st h rc rs) : sm_V l M d mc ms r pc L (.int x :: st) h rc rs := fun p e s m args below meth c b ba D dA hC => jm_if_ne hC hd ht (fun q => kt q p e s m args below meth c b ba D dA hC) (fun q => kf q p e s m args below meth c b ba D dA hC)
theorem v_icmp_ne {off : Int} {tgt : Nat} {x y : Int32} (hd : decode M.2.1 pc = .ok (.if_icmp .ne off, 3)) (ht : (pc : Int) + off = (tgt : Int)) (kt : ¬ x = y → sm_V l M d mc ms r tgt L st h rc rs) (kf : x = y → sm_V l M d mc ms r (pc + 3) L st h rc rs) : sm_V l M d mc ms r pc L (.int y :: .int x :: st) h rc rs := fun p e s m args below meth c b ba D dA hC => jm_icmp_ne hC hd ht (fun q => kt q p e s m args below meth c b ba D dA hC) (fun q => kf q p e s m args below meth c b ba D dA hC)
theorem v_if_lt {off : Int} {tgt : Nat} {x : Int32} (hd : decode M.2.1 pc = .ok (.ifCond .lt off, 3)) (ht : (pc : Int) + off = (tgt : Int)) (kt : x < 0 → sm_V l M d mc ms r tgt L st h rc rs) (kf : ¬ x < 0 → sm_V l M d mc ms r (pc + 3) L st h rc rs) : sm_V l M d mc ms r pc L (.int x :: st) h rc rs := fun p e s m args below meth c b ba D dA hC => jm_if_lt hC hd ht (fun q => kt q p e s m args below meth c b ba D dA hC) (fun q => kf q p e s m args below meth c b ba D dA hC)
theorem v_icmp_lt {off : Int} {tgt : Nat} {x y : Int32} (hd : decode M.2.1 pc = .ok (.if_icmp .lt off, 3)) (ht : (pc : Int) + off = (tgt : Int)) (kt : x < y → sm_V l M d mc ms r tgt L st h rc rs) (kf : ¬ x < y → sm_V l M d mc ms r (pc + 3) L st h rc rs) : sm_V l M d mc ms r pc L (.int y :: .int x :: st) h rc rs := fun p e s m args below meth c b ba D dA hC => jm_icmp_lt hC hd ht (fun q => kt q p e s m args below meth c b ba D dA hC) (fun q => kf q p e s m args below meth c b ba D dA hC)
theorem v_if_ge {off : Int} {tgt : Nat} {x : Int32} (hd : decode M.2.1 pc = .ok (.ifCond .ge off, 3)) (ht : (pc : Int) + off = (tgt : Int)) (kt : 0 ≤ x → sm_V l M d mc ms r tgt L st h rc rs) (kf : ¬ 0 ≤ x → sm_V l M d mc ms r (pc + 3) L st h rc rs) : sm_V l M d mc ms r pc L (.int x :: st) h rc rs := fun p e s m args below meth c b ba D dA hC => jm_if_ge hC hd ht (fun q => kt q p e s m args below meth c b ba D dA hC) (fun q => kf q p e s m args below meth c b ba D dA hC)
theorem v_icmp_ge {off : Int} {tgt : Nat} {x y : Int32} (hd : decode M.2.1 pc = .ok (.if_icmp .ge off, 3)) (ht : (pc : Int) + off = (tgt : Int)) (kt : y ≤ x → sm_V l M d mc ms r tgt L st h rc rs) (kf : ¬ y ≤ x → sm_V l M d mc ms r (pc + 3) L st h rc rs) : sm_V l M d mc ms r pc L (.int y :: .int x :: st) h rc rs := fun p e s m args below meth c b ba D dA hC => jm_icmp_ge hC hd ht (fun q => kt q p e s m args below meth c b ba D dA hC) (fun q => kf q p e s m args below meth c b ba D dA hC)
theorem v_if_gt {off : Int} {tgt : Nat} {x : Int32} (hd : decode M.2.1 pc = .ok (.ifCond .gt off, 3)) (ht : (pc : Int) + off = (tgt : Int)) (kt : 0 < x → sm_V l M d mc ms r tgt L st h rc rs) (kf : ¬ 0 < x → sm_V l M d mc ms r (pc + 3) L st h rc rs) : sm_V l M d mc ms r pc L (.int x :: st) h rc rs := fun p e s m args below meth c b ba D dA hC => jm_if_gt hC hd ht (fun q => kt q p e s m args below meth c b ba D dA hC) (fun q => kf q p e s m args below meth c b ba D dA hC)
theorem v_icmp_gt {off : Int} {tgt : Nat} {x y : Int32} (hd : decode M.2.1 pc = .ok (.if_icmp .gt off, 3)) (ht : (pc : Int) + off = (tgt : Int)) (kt : y < x → sm_V l M d mc ms r tgt L st h rc rs) (kf : ¬ y < x → sm_V l M d mc ms r (pc + 3) L st h rc rs) : sm_V l M d mc ms r pc L (.int y :: .int x :: st) h rc rs := fun p e s m args below meth c b ba D dA hC => jm_icmp_gt hC hd ht (fun q => kt q p e s m args below meth c b ba D dA hC) (fun q => kf q p e s m args below meth c b ba D dA hC)
theorem v_if_le {off : Int} {tgt : Nat} {x : Int32} (hd : decode M.2.1 pc = .ok (.ifCond .le off, 3)) (ht : (pc : Int) + off = (tgt : Int)) (kt : x ≤ 0 → sm_V l M d mc ms r tgt L st h rc rs) (kf : ¬ x ≤ 0 → sm_V l M d mc ms r (pc + 3) L st h rc rs) : sm_V l M d mc ms r pc L (.int x :: st) h rc rs := fun p e s m args below meth c b ba D dA hC => jm_if_le hC hd ht (fun q => kt q p e s m args below meth c b ba D dA hC) (fun q => kf q p e s m args below meth c b ba D dA hC)
theorem v_icmp_le {off : Int} {tgt : Nat} {x y : Int32} (hd : decode M.2.1 pc = .ok (.if_icmp .le off, 3)) (ht : (pc : Int) + off = (tgt : Int)) (kt : x ≤ y → sm_V l M d mc ms r tgt L st h rc rs) (kf : ¬ x ≤ y → sm_V l M d mc ms r (pc + 3) L st h rc rs) : sm_V l M d mc ms r pc L (.int y :: .int x :: st) h rc rs := fun p e s m args below meth c b ba D dA hC => jm_icmp_le hC hd ht (fun q => kt q p e s m args below meth c b ba D dA hC) (fun q => kf q p e s m args below meth c b ba D dA hC)
end SMV
/-! new int[10][10]: eleven cells at once -/
def sm_mr (R : Nat → Nat → Option Nat) (q : Nat) : Nat → Nat → Nat → Option Nat
  | 0 => R
  | j + 1 => sm_u (sm_mr R q j) q j (some (q + 1 + j))
def sm_mk2 (h : sm_H) : Nat → sm_H
  | 0 => sm_nw h 150 10
  | j + 1 => sm_nw (sm_mk2 h j) 100 10
def sm_ms (h : sm_H) : sm_H := ((sm_mk2 h 10).1, (sm_mk2 h 10).2.1, (sm_mk2 h 10).2.2.1, sm_mr (sm_mk2 h 10).2.2.2 h.1.length 10)
theorem sm_mr_other {R : Nat → Nat → Option Nat} {q c : Nat} (hc : c ≠ q) : ∀ j, sm_mr R q j c = R c
  | 0 => rfl
  | j + 1 => by
    show sm_u (sm_mr R q j) q j (some (q + 1 + j)) c = R c
    rw [sm_u_rows hc]
    exact sm_mr_other hc j
theorem sm_mr_at {R : Nat → Nat → Option Nat} {q : Nat} : ∀ j i, i < j → sm_mr R q j q i = some (q + 1 + i)
  | 0, i, h => absurd h (Nat.not_lt_zero i)
  | j + 1, i, h => by
    show sm_u (sm_mr R q j) q j (some (q + 1 + j)) q i = _
    rw [sm_u_row]
    by_cases e : i = j
    · subst e; simp
    · simp only [if_neg e]
      exact sm_mr_at j i (by omega)
theorem sm_mk2_len {h : sm_H} : ∀ j, (sm_mk2 h j).1.length = h.1.length + 1 + j
  | 0 => by show (h.1 ++ [(150, 10)]).length = _; simp
  | j + 1 => by
    show ((sm_mk2 h j).1 ++ [(100, 10)]).length = _
    rw [List.length_append, sm_mk2_len j]; rfl
theorem sm_mk2_get {h : sm_H} : ∀ (j k : Nat), (sm_mk2 h j).1[k]? = if k < h.1.length then h.1[k]? else if k = h.1.length then some (150, 10) else if k < h.1.length + 1 + j then some (100, 10) else none
  | 0, k => by
    show (h.1 ++ [(150, 10)])[k]? = _
    by_cases h1 : k < h.1.length
    · rw [if_pos h1, List.getElem?_append_left h1]
    · rw [if_neg h1, List.getElem?_append_right (by omega)]
      by_cases h2 : k = h.1.length
      · rw [if_pos h2, h2, Nat.sub_self]; rfl
      · rw [if_neg h2, if_neg (by omega)]
        exact List.getElem?_eq_none (by simp; omega)
  | j + 1, k => by
    show ((sm_mk2 h j).1 ++ [(100, 10)])[k]? = _
    have hl := sm_mk2_len (h := h) j
    by_cases h0 : k < (sm_mk2 h j).1.length
    · rw [List.getElem?_append_left h0, sm_mk2_get j k]
      rw [hl] at h0
      by_cases h1 : k < h.1.length
      · simp [h1]
      · by_cases h2 : k = h.1.length
        · simp [h2]
        · simp [h1, h2, h0, show k < h.1.length + 1 + (j + 1) by omega]
    · rw [List.getElem?_append_right (by omega)]
      rw [hl] at h0 ⊢
      rw [if_neg (by omega), if_neg (by omega)]
      by_cases h1 : k = h.1.length + 1 + j
      · rw [h1, Nat.sub_self, if_pos (by omega)]; rfl
      · rw [if_neg (by omega)]
        exact List.getElem?_eq_none (by simp; omega)
theorem sm_mk2_old {h : sm_H} {c : Nat} (hc : c < h.1.length) : ∀ j, (sm_mk2 h j).2.1 c = h.2.1 c ∧ (sm_mk2 h j).2.2.1 c = h.2.2.1 c ∧ (sm_mk2 h j).2.2.2 c = h.2.2.2 c
  | 0 => ⟨sm_z_rows (by omega), sm_z_rows (by omega), sm_z_rows (by omega)⟩
  | j + 1 => by
    obtain ⟨a, b, d⟩ := sm_mk2_old hc j
    have hl := sm_mk2_len (h := h) j
    exact ⟨(sm_z_rows (by omega)).trans a, (sm_z_rows (by omega)).trans b, (sm_z_rows (by omega)).trans d⟩
theorem sm_mk2_row {h : sm_H} : ∀ (j i : Nat), i < j → (sm_mk2 h j).2.1 (h.1.length + 1 + i) = fun _ => 0
  | 0, i, hi => absurd hi (Nat.not_lt_zero i)
  | j + 1, i, hi => by
    have hl := sm_mk2_len (h := h) j
    show sm_z (sm_mk2 h j).2.1 (sm_mk2 h j).1.length 0 (h.1.length + 1 + i) = _
    by_cases e : i = j
    · subst e
      rw [← hl]; exact sm_z_row
    · rw [sm_z_rows (by omega)]
      exact sm_mk2_row j i (by omega)
section SMM
variable {M : sm_M} {d pc : Nat} {p : Program} {l : Launch} {e : Env} {R : Room} {s : State} {m : MethodId} {args : Array Value} {below : List Frame} {meth : Method} {c : Code} {b ba : Nat} {D : va_G} {dA : Nat → ClassId} {rc rs : Nat} {Q : State → Prop} {L st : List Value} {h : sm_H}
theorem jm_multi {idx : Nat} (hC : sm_C p R s m args meth c M d D dA) (hd : decode M.2.1 pc = .ok (.multianewarray idx 2, 4)) (w1 : Cond.classLink M.1.cls idx "[[I" ∈ sm_G) (w2 : Cond.arrayClass .int ∈ sm_G)
    (k : sm_At p l e R s m args below meth c b ba D dA M.2.2.1 true rc rs Q (pc + 4) L (.ref h.1.length :: st) (sm_ms h)) : sm_At p l e R s m args below meth c b ba D dA M.2.2.1 true (rc + 11) (rs + 110) Q pc L (.int 10 :: .int 10 :: st) h := by
  obtain ⟨c1, c2, c3, c4, c5, c6, c7, c8, c9, c10, c11⟩ := hC
  intro H locs cells slots ls hP hS hH hl h1 h2 T hT Xs
  have hsz := hH rfl
  have hover : (Cond.arrayOver (.array .int)).before args s = true := c9.2.2.2
  obtain ⟨vm₁, cA, comp, -, fA, fC, hO, -, X', step⟩ := Xs.multianewarray2F c1 c4 (c5 _ w1) hover (c5 _ w2) (g := F0 m pc ls (.int 10 :: .int 10 :: sm_vs b ba st)) rfl (by rw [c2]; exact hd) rfl (by decide) (by decide) (by decide) (by decide) (by decide) rfl rfl (by show cells + 11 ≤ R.cells; omega) (by show slots + 110 ≤ R.slots; omega)
  have tA := (c9.1.2 4 _ (sm_tyK c9 (t := 150) (ty := .array .int) rfl)).2
  have tI := (c9.1.2 0 _ (sm_tyK c9 (t := 100) (ty := .int) rfl)).2
  have eA : cA = dA 150 := Option.some.inj (fA.symm.trans tA)
  have eI : comp = dA 100 := Option.some.inj (fC.symm.trans tI)
  subst eA
  subst eI
  have hn10 : (10 : Int32).toNatClampNeg = 10 := rfl
  rw [hn10] at X' step
  generalize hF : Jvm.Free.Multi.fill (T.setVm vm₁) (dA 150) (dA 100) 10 10 (defaultValue .int) 10 = F at X' step
  have hTh : (T.setVm vm₁).heap = H := hT
  obtain ⟨f1, f2, -, -⟩ := Jvm.Free.Multi.fill_facts (T.setVm vm₁) (dA 150) (dA 100) 10 10 (defaultValue .int) 10
  rw [hF, hTh] at f1 f2
  have hold : ∀ x : Nat, x < H.size → F.heap[x]? = H[x]? := fun x hx => by
    have := Jvm.Free.Multi.fill_old (T.setVm vm₁) (dA 150) (dA 100) 10 10 (defaultValue .int) (a := x) (by rw [hTh]; exact hx) 10
    rw [hF, hTh] at this
    exact this
  have hrow : ∀ j : Nat, j < 10 → F.heap[H.size + 1 + j]? = some (Jvm.Free.Multi.innerC (dA 100) 10 (defaultValue .int)) := fun j hj => by
    have := Jvm.Free.Multi.fill_inner (T.setVm vm₁) (dA 150) (dA 100) 10 10 (defaultValue .int) 10 j hj
    rw [hF, hTh] at this
    exact this
  have hlen : (sm_ms h).1.length = h.1.length + 11 := sm_mk2_len 10
  have hP1 : va_P D vwCl (sm_ws dA ba (sm_ms h)) F.heap := by
    intro i q hq
    have hq1 := sm_ws_at hq
    unfold sm_ws at hq
    rw [List.getElem?_mapIdx] at hq
    rw [show (sm_ms h).1[i]? = _ from sm_mk2_get 10 i] at hq
    by_cases i1 : i < h.1.length
    · rw [if_pos i1] at hq
      have e0 : ∀ kd, sm_en dA ba (sm_ms h) i kd = sm_en dA ba h i kd := fun kd => by
        obtain ⟨o1, o2, o3⟩ := sm_mk2_old i1 10
        have o4 : (sm_ms h).2.2.2 i = h.2.2.2 i := (sm_mr_other (by omega) 10).trans o3
        have o5 : (sm_ms h).2.1 i = h.2.1 i := o1
        have o6 : (sm_ms h).2.2.1 i = h.2.2.1 i := o2
        unfold sm_en sm_fl
        rw [o4, o5, o6]
      have hq2 : (sm_ws dA ba h)[i]? = some q := by
        unfold sm_ws
        rw [List.getElem?_mapIdx]
        cases hk : h.1[i]? with
        | none => rw [hk] at hq; cases hq
        | some kd =>
          rw [hk] at hq
          rw [← hq]
          simp only [Option.map_some, e0]
      exact (hP i q hq2).kept (hold q.1 ((hP i q hq2).lt))
    · rw [if_neg i1] at hq
      by_cases i2 : i = h.1.length
      · rw [if_pos i2] at hq
        cases hq
        show F.heap[ba + i]? = some (vp_cell (dA 150) (10, .inr (.inr (.inr (.inr (fun j => ((sm_ms h).2.2.2 i j).map (fun q => ba + q)))))))
        rw [i2, ← hsz, f2, vp_cell_q]
        have hout : ∀ i, i ≤ 10 → Jvm.Free.Multi.outerC (dA 150) 10 H.size i = arrV (dA 150) 10 (fun j => va_rf (if j < i then some (H.size + 1 + j) else none)) := by
          intro i
          induction i with
          | zero =>
            intro _
            show ({ cls := dA 150, slots := Array.replicate 10 .null, vm := .none } : Cell) = _
            rw [arrV_new]
            exact congrArg (arrV (dA 150) 10) (funext fun j => by simp [va_rf])
          | succ i ih =>
            intro hi
            show (Jvm.Free.Multi.outerC (dA 150) 10 H.size i).setSlot i (.ref (H.size + 1 + i)) = _
            rw [ih (by omega), arrV_store]
            refine congrArg (arrV (dA 150) 10) (funext fun j => ?_)
            by_cases e : j = i
            · subst e
              simp [updV, va_rf]
            · by_cases h : j < i
              · simp [updV, e, h, Nat.lt_succ_of_lt h]
              · simp [updV, e, h, show ¬ j < i + 1 by omega]
        rw [hout 10 (Nat.le_refl _)]
        refine congrArg some ?_
        unfold arrV
        congr 1
        apply Array.ext
        · simp
        · intro j j1 j2
          have hj : j < 10 := by simpa using j1
          have hr : (sm_ms h).2.2.2 h.1.length j = some (h.1.length + 1 + j) := sm_mr_at 10 j hj
          simp only [Array.getElem_ofFn, hr, hj, if_true, Option.map_some]
          rw [hsz]
          show va_rf (some (ba + h.1.length + 1 + j)) = va_rf (some (ba + (h.1.length + 1 + j)))
          congr 2; omega
      · rw [if_neg i2] at hq
        by_cases i3 : i < h.1.length + 1 + 10
        · rw [if_pos i3] at hq
          cases hq
          obtain ⟨j, hj⟩ : ∃ j, i = h.1.length + 1 + j := ⟨i - (h.1.length + 1), by omega⟩
          show F.heap[ba + i]? = some (vp_cell (dA 100) (10, .inl ((sm_ms h).2.1 i)))
          have hr : (sm_ms h).2.1 i = fun _ => 0 := by rw [hj]; exact sm_mk2_row 10 j (by omega)
          rw [hr, vp_cell_i, show ba + i = H.size + 1 + j by omega, hrow j (by omega)]
          show some ({ cls := dA 100, slots := Array.replicate 10 (defaultValue .int), vm := .none } : Cell) = _
          rw [arrV_new]; rfl
        · rw [if_neg i3] at hq
          cases hq
  have hS1 : va_S (fun q => ba ≤ q) s.heap F.heap locs := ⟨Nat.le_trans hS.1 (by omega), fun x a1 a2 => (hold x (by have := hS.1; omega)).trans (hS.2.1 x a1 a2), hS.2.2⟩
  have hst : (Value.ref T.heap.size :: sm_vs b ba st) = sm_vs b ba (.ref h.1.length :: st) := by rw [hT, hsz]; rfl
  obtain ⟨t2, a1, b1⟩ := k F.heap locs (cells + 1 + 10) (slots + 10 + 10 * 10) ls hP1 hS1 (fun _ => by rw [f1, hlen, hsz]; omega) hl (by omega) (by omega) F rfl X'
  refine ⟨t2, step t2 ?_, b1⟩
  rw [hst]
  exact a1
theorem v_multi {mc ms idx : Nat} {r : Option Value × sm_H} (rc rs : Nat) (hd : decode M.2.1 pc = .ok (.multianewarray idx 2, 4)) (w1 : Cond.classLink M.1.cls idx "[[I" ∈ sm_G) (w2 : Cond.arrayClass .int ∈ sm_G)
    (k : sm_V l M d mc ms r (pc + 4) L (.ref h.1.length :: st) (sm_ms h) rc rs) : sm_V l M d mc ms r pc L (.int 10 :: .int 10 :: st) h (rc + 11) (rs + 110) := fun p e s m args below meth c b ba D dA hC => jm_multi hC hd w1 w2 (k p e s m args below meth c b ba D dA hC)
end SMM
