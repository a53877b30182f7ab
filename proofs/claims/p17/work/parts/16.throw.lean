/-! THROWS: the one exception, its way out of a method and into a helper's handler -/
def sm_isC (w : Cond) : Bool := match w with
  | .castable _ _ => true
  | .declares _ => true
  | _ => false
def sm_CC : List Cond := lw_tbl.filter sm_isC
/-- what a throw needs, all through the run -/
def sm_XF (ba : Nat) (U : State) : Prop := (∃ a, vk_R RX11 110 "no such hedge, or nothing such of it" a U) ∧ (∃ a, vk_R RX11 327 "no such hedge, or no corners" a U) ∧ (∃ a, vk_R RX11 375 "no such number of the row" a U) ∧ vx_Zq Bundle.tN "UNASSIGNED_STACK" Bundle.steD (fun q => ba ≤ q) U U.heap ∧ vx_Zq Bundle.tN "SUPPRESSED_SENTINEL" Bundle.listD (fun q => ba ≤ q) U U.heap ∧ ∀ w ∈ sm_CC, va_Nw w U
theorem sm_XF.keep {ba : Nat} {s U : State} {locs : List Loc} (hW : s.WarmedH U.vm) (hS : va_S (fun q => ba ≤ q) s.heap U.heap locs) (h : sm_XF ba s) : sm_XF ba U := by
  obtain ⟨⟨a1, h1⟩, ⟨a2, h2⟩, ⟨a3, h3⟩, h4, h5, h6⟩ := h
  refine ⟨⟨a1, vk_R.warm hW h1⟩, ⟨a2, vk_R.warm hW h2⟩, ⟨a3, vk_R.warm hW h3⟩, vx_Zq.moved hW.alike (h4.kept hS.2.1), vx_Zq.moved hW.alike (h5.kept hS.2.1), fun w hw => ?_⟩
  have h7 : sm_isC w = true := (List.mem_filter.mp hw).2
  cases w <;> first | exact va_Nw.warmC hW (h6 _ hw) | exact va_Nw.warmD hW (h6 _ hw) | cases h7
theorem sm_XF.same {ba : Nat} {s U : State} (hv : s.vm = U.vm) (hh : s.heap = U.heap) (h : sm_XF ba s) : sm_XF ba U :=
  sm_XF.keep (locs := []) (by rw [← hv]; exact State.WarmedH.refl s) (by rw [hh]; exact va_S.rf) h
def sm_cand : List Cond := (tables_1_1.drop 15).take 4 ++ ((tables_1_1.drop 26).take 2 ++ ((tables_1_5.drop 38).take 70 ++ ((tables_1_7.drop 239).take 1 ++ ((tables_1_8.drop 13).take 3))))
theorem sm_cand_in : ∀ w ∈ sm_cand, w ∈ lw_tbl := by
  intro w hw
  have hw2 : w ∈ (tables_1_1.drop 15).take 4 ++ ((tables_1_1.drop 26).take 2 ++ ((tables_1_5.drop 38).take 70 ++ ((tables_1_7.drop 239).take 1 ++ ((tables_1_8.drop 13).take 3)))) := hw
  rcases List.mem_append.mp hw2 with h0 | g0
  · obtain ⟨i, hi⟩ := List.getElem?_of_mem (List.mem_of_mem_drop (List.mem_of_mem_take h0))
    exact List.mem_append.mpr (Or.inr (lw_t1 i hi))
  rcases List.mem_append.mp g0 with h1 | g1
  · obtain ⟨i, hi⟩ := List.getElem?_of_mem (List.mem_of_mem_drop (List.mem_of_mem_take h1))
    exact List.mem_append.mpr (Or.inr (lw_t1 i hi))
  rcases List.mem_append.mp g1 with h2 | g2
  · obtain ⟨i, hi⟩ := List.getElem?_of_mem (List.mem_of_mem_drop (List.mem_of_mem_take h2))
    exact List.mem_append.mpr (Or.inr (lw_t5 i hi))
  rcases List.mem_append.mp g2 with h3 | g3
  · obtain ⟨i, hi⟩ := List.getElem?_of_mem (List.mem_of_mem_drop (List.mem_of_mem_take h3))
    exact List.mem_append.mpr (Or.inr (lw_t7 i hi))
  obtain ⟨i, hi⟩ := List.getElem?_of_mem (List.mem_of_mem_drop (List.mem_of_mem_take g3))
  exact List.mem_append.mpr (Or.inr (lw_t8 i hi))
theorem sm_at_in : ∀ w ∈ sm_tw, w ∈ sm_G ∨ w ∈ sm_CC := by
  have h : sm_tw.all (fun w => decide (w ∈ sm_cand) && (goodWord w || sm_isC w)) = true := by decide +kernel
  intro w hw
  have h1 := List.all_eq_true.mp h w hw
  simp only [Bool.and_eq_true, Bool.or_eq_true, decide_eq_true_eq] at h1
  rcases h1.2 with h2 | h2
  · exact Or.inl (List.mem_filter.mpr ⟨sm_cand_in w h1.1, h2⟩)
  · exact Or.inr (List.mem_filter.mpr ⟨sm_cand_in w h1.1, h2⟩)
theorem sm_at_ot : ∀ w ∈ (Cond.classLink RX11 108 "java/util/NoSuchElementException" :: Cond.initialized "java/util/NoSuchElementException" :: sm_tw), vx_ot w = true :=
  List.all_eq_true.mp (by decide +kernel)
theorem sm_CC_bf {ba : Nat} {args : Array Value} {s : State} {w : Cond} (hX : sm_XF ba s) (hw : w ∈ sm_CC) : w.before args s = true := by
  have h7 : sm_isC w = true := (List.mem_filter.mp hw).2
  have h8 := hX.2.2.2.2.2 w hw
  cases w <;> first | exact va_tabs rfl (rfl : s.vm = s.vm) h8 | cases h7
theorem wcast_nse : Cond.castable "java/util/NoSuchElementException" "java/util/NoSuchElementException" ∈ sm_CC := List.mem_filter.mpr ⟨by decide +kernel, rfl⟩
theorem wX11_108 : Cond.classLink RX11 108 "java/util/NoSuchElementException" ∈ sm_G := sm_inm (by decide +kernel) rfl
theorem wI_nse : Cond.initialized "java/util/NoSuchElementException" ∈ sm_G := sm_inm (by decide +kernel) rfl
theorem wL_13 : Cond.classLink RL 13 "java/util/NoSuchElementException" ∈ sm_G := sm_inm (by decide +kernel) rfl
def sm_PcX (b ba : Nat) (D : va_G) (dA : Nat → ClassId) (as : List Value) (h : sm_H) : Array Value → State → Prop := fun a U => a = (sm_vs b ba as).toArray ∧ va_P D vwCl (sm_ws dA ba h) U.heap ∧ sm_KK D dA U ∧ sm_XF ba U
theorem sm_blindX {b ba : Nat} {D : va_G} {dA : Nat → ClassId} {as : List Value} {h : sm_H} : FrameBlind (sm_PcX b ba D dA as h) := by
  intro a U g mk q
  obtain ⟨q0, q1, q2, q3⟩ := q
  exact ⟨q0, q1, sm_KK.same (s := U) (U := U.calling g mk a) rfl q2, sm_XF.same (s := U) (U := U.calling g mk a) rfl rfl q3⟩
def sm_XC (ba : Nat) (D : va_G) (dA : Nat → ClassId) (h : sm_H) : String → State → State → Prop := fun E st t => E = "java/util/NoSuchElementException" ∧ va_P D vwCl (sm_ws dA ba h) t.heap ∧ va_F (fun q => ba ≤ q) st t
def sm_no : Array Value → State → Outcome → State → Prop := fun _ _ _ _ => False
/-- M, called with as in the heap h, throws -/
def sm_Xt (l : Launch) (M : sm_M) (d : Nat) (as : List Value) (h : sm_H) : Prop :=
  ∀ (b ba : Nat) (D : va_G) (dA : Nat → ClassId), vx_Met l M.1 (sm_w M) (sm_rm d 1 6) (sm_PcX b ba D dA as h) sm_no (sm_XC ba D dA h) 1 6 (fun q => ba ≤ q)
theorem sm_Xt.of {l : Launch} {M : sm_M} {d : Nat} {as : List Value} {h : sm_H} (hpl : plainName M.1.cls = true) (hlen : (sm_ar as).length ≤ M.2.2.1)
    (body : ∀ (p : Program) (e : Env) (s : State) (m : MethodId) (args : Array Value) (below : List Frame) (meth : Method) (c : Code) (b ba : Nat) (D : va_G) (dA : Nat → ClassId), sm_C p (sm_rm d 1 6) s m args meth c M d D dA → (∀ x ∈ c.exceptionTable.toList, False) → sm_XF ba s →
      sm_At p l e (sm_rm d 1 6) s m args below meth c b ba D dA M.2.2.1 false 1 6 (vx_MQ below sm_no (sm_XC ba D dA h) args s 1 6 (fun q => ba ≤ q)) 0 (sm_e0 as M.2.2.1) [] h) : sm_Xt l M d as h := by
  intro b ba D dA
  refine vx_ofW (cc := M.2.1) (maxL := M.2.2.1) (ret := M.2.2.2) hpl rfl ?_
  intro p e s m args below meth c s₁ B hml hno hv
  obtain ⟨rfl, hP, hKK, hX⟩ := hv
  have hts := atoms_spec (ws := sm_w M) B.pre
  have hC : sm_C p (sm_rm d 1 6) s m (sm_vs b ba as).toArray meth c M d D dA := ⟨B.exec, B.bytes, hml, findClass_of_methodNamed B.named, fun w hw => hts w (List.mem_cons_of_mem _ hw), B.returns, B.notSynchronized, (name_of_methodNamed B.named B.method).1, hKK, Nat.le_refl _, Nat.le_refl _⟩
  have hl := lv_entry (sm_vs b ba as) (n := M.2.2.1) (by rw [sm_ar_len]; exact hlen)
  rw [lg_entry_eq]
  exact body p e s m (sm_vs b ba as).toArray below meth c b ba D dA hC hno hX s.heap [] 0 0 _ hP va_S.rf (fun q => Bool.noConfusion q) ⟨hl.1, hl.2.1, fun q hq => hl.2.2 q (sm_e0_args as M.2.2.1 q hq)⟩ (by show 0 + 1 ≤ 1; omega) (by show 0 + 6 ≤ 6; omega)
section SMT
variable {M : sm_M} {d pc : Nat} {p : Program} {l : Launch} {e : Env} {R : Room} {s : State} {m : MethodId} {args : Array Value} {below : List Frame} {meth : Method} {c : Code} {b ba : Nat} {D : va_G} {dA : Nat → ClassId} {al : Bool} {rc rs : Nat} {Q : State → Prop} {L st : List Value} {h : sm_H}
theorem sm_xc {H : Heap} {locs : List Loc} (hP : va_P D vwCl (sm_ws dA ba h) H) (hS : va_S (fun q => ba ≤ q) s.heap H locs) (t : State) (hz : H.size ≤ t.heap.size) (hk : ∀ q : Nat, q < H.size → t.heap[q]? = H[q]?) : sm_XC ba D dA h "java/util/NoSuchElementException" s t :=
  ⟨rfl, hP.kept fun k x hx => hk x.1 (hP k x hx).lt, Nat.le_trans hS.1 hz, fun q q1 q2 => (hk q (Nat.lt_of_lt_of_le q1 hS.1)).trans (hS.2.1 q q1 q2)⟩
theorem sm_thrS {is : Nat} {text : String} (hl : l.stackTraces = false) (hC : sm_C p (sm_rm d 1 6) s m args meth c M d D dA) (hM : M.1.cls = RX11) (hd9 : 6 ≤ d) (hno : ∀ x ∈ c.exceptionTable.toList, False) (hX : sm_XF ba s) (ht : ∃ a, vk_R RX11 is text a s)
    (d0 : decode M.2.1 pc = .ok (.new 108, 3)) (d3 : decode M.2.1 (pc + 3) = .ok (.dup, 1)) (d4 : decode M.2.1 (pc + 4) = .ok (.ldc is, 2)) (d6 : decode M.2.1 (pc + 6) = .ok (.invokespecial 112, 3)) (d9 : decode M.2.1 (pc + 9) = .ok (.athrow, 1)) :
    sm_At p l e (sm_rm d 1 6) s m args below meth c b ba D dA M.2.2.1 al 1 6 (vx_MQ below sm_no (sm_XC ba D dA h) args s 1 6 (fun q => ba ≤ q)) pc L [] h := by
  obtain ⟨c1, c2, c3, c4, c5, c6, c7, c8, c9, c10, c11⟩ := hC
  obtain ⟨sa, hsa⟩ := ht
  intro H locs cells slots ls hP hS hH hll h1 h2
  rw [hM] at c4
  refine sm_throwS (A := fun q => ba ≤ q) c1 c2 hl c4 (c5 _ wX11_108) (c5 _ wI_nse) hsa (fun w hw => ?_) sm_at_ot hX.2.2.2.1 hX.2.2.2.2.1 hS (hll.1.trans c3.symm) d0 d3 d4 d6 d9 (fun x hx => (hno x hx).elim) ?_ ?_ h1 h2 c7 (fun t _ q1 q2 => sm_xc hP hS t q1 q2) hS.2.2 h1 h2
  · rcases sm_at_in w hw with q | q
    · exact c5 _ q
    · exact sm_CC_bf hX q
  · show 2 + 3 < d; omega
  · show 0 + (13 * (2 + 1) + 43) ≤ 40 * d; omega
theorem sm_thrSW {is : Nat} {text : String} (hl : l.stackTraces = false) (hC : sm_C p (sm_rm d 1 6) s m args meth c M d D dA) (hM : M.1.cls = RX11) (hd9 : 6 ≤ d) (hno : ∀ x ∈ c.exceptionTable.toList, False) (hX : sm_XF ba s) (ht : ∃ a, vk_R RX11 is text a s)
    (d0 : decode M.2.1 pc = .ok (.new 108, 3)) (d3 : decode M.2.1 (pc + 3) = .ok (.dup, 1)) (d4 : decode M.2.1 (pc + 4) = .ok (.ldc_w is, 3)) (d6 : decode M.2.1 (pc + 7) = .ok (.invokespecial 112, 3)) (d9 : decode M.2.1 (pc + 10) = .ok (.athrow, 1)) :
    sm_At p l e (sm_rm d 1 6) s m args below meth c b ba D dA M.2.2.1 al 1 6 (vx_MQ below sm_no (sm_XC ba D dA h) args s 1 6 (fun q => ba ≤ q)) pc L [] h := by
  obtain ⟨c1, c2, c3, c4, c5, c6, c7, c8, c9, c10, c11⟩ := hC
  obtain ⟨sa, hsa⟩ := ht
  intro H locs cells slots ls hP hS hH hll h1 h2
  rw [hM] at c4
  refine sm_throwSW (A := fun q => ba ≤ q) c1 c2 hl c4 (c5 _ wX11_108) (c5 _ wI_nse) hsa (fun w hw => ?_) sm_at_ot hX.2.2.2.1 hX.2.2.2.2.1 hS (hll.1.trans c3.symm) d0 d3 d4 d6 d9 (fun x hx => (hno x hx).elim) ?_ ?_ h1 h2 c7 (fun t _ q1 q2 => sm_xc hP hS t q1 q2) hS.2.2 h1 h2
  · rcases sm_at_in w hw with q | q
    · exact c5 _ q
    · exact sm_CC_bf hX q
  · show 2 + 3 < d; omega
  · show 0 + (13 * (2 + 1) + 43) ≤ 40 * d; omega
theorem sm_lk_of {L : List Value} : ∀ {j : Nat} {w : Value}, L[j]? = some w → sm_lk L j = w := by
  induction L with
  | nil => intro j w hw; simp at hw
  | cons x t ih =>
    intro j w hw
    cases j with
    | zero => exact (Option.some.inj (show some x = some w from hw))
    | succ j => exact ih (by simpa using hw)
theorem sm_has_keep {n i : Nat} {ls : Array Slot} {w : Value} (h : lv_has ls n ((i, w) :: (sm_pr b ba 0 L).filter (fun q => !(q.1 == i) && !(q.1 + 1 == i && q.2.category == 2)))) (hc : sm_nl L i = true) (hu : sm_lk L i = .retAddr 0) : lv_has ls n (sm_pr b ba 0 L) := by
  refine ⟨h.1, h.2.1, fun q hq => h.2.2 q (List.mem_cons_of_mem _ (List.mem_filter.mpr ⟨hq, ?_⟩))⟩
  obtain ⟨j, w', hj, hw, rfl⟩ := sm_pr_mem.mp hq
  rw [Nat.zero_add]
  have e2 : ¬ j = i := fun q => hw (by rw [← sm_lk_of hj, q]; exact hu)
  simp only [sm_v_cat]
  by_cases e3 : j + 1 = i
  · have := sm_nl_cat hc e3 hj
    simp [e2, this]
  · simp [e2, e3]
/-- a call that throws, caught by this method's own row -/
theorem jm_callX {Y : sm_M} {dY idx a ci N n : Nat} {C : String} {T : u_T} {ty : Nat → FieldType} {x : ExceptionTableEntry} (As st0 : List Value) (hR : sm_Xt l Y dY (.ref a :: As) h) (hC : sm_C p R s m args meth c M d D dA) (hX : sm_XF ba s) (htab : c.exceptionTable.toList = [x]) (hcov : covers x pc = true) (hct : x.catchType ≠ 0) (hlink : Cond.classLink M.1.cls x.catchType "java/util/NoSuchElementException" ∈ sm_G)
    (hw : sm_cV M Y idx n ci N C T ty) (hd : decode M.2.1 pc = .ok (.invokevirtual idx, 3)) (hst : st = As.reverse ++ .ref a :: st0) (hA : As.length = n) (hdd : dY + 1 ≤ d) (hml : Y.2.2.1 ≤ 21) (hs : sm_is h a ci N = true) (hsum : sm_sum st0 ≤ 8)
    (k : ∀ (H : Heap) (locs : List Loc) (cells slots : Nat) (ls : Array Slot) (q : Nat), va_P D vwCl (sm_ws dA ba h) H → va_S (fun q => ba ≤ q) s.heap H locs → lv_has ls M.2.2.1 (sm_pr b ba 0 L) → cells + rc ≤ R.cells → slots + rs ≤ R.slots → W p l e R s m args below meth c H locs cells slots Q (F0 m x.handlerPc ls [.ref q])) :
    sm_At p l e R s m args below meth c b ba D dA M.2.2.1 al (rc + 1) (rs + 6) Q pc L st h := by
  obtain ⟨w0, wc, wn, w1, w2, w3, w4, w5⟩ := hw
  subst hst
  have hC' := hC
  obtain ⟨c1, c2, c3, c4, c5, c6, c7, c8, c9, c10, c11⟩ := hC
  obtain ⟨g1, g2, g3, g4, g5⟩ := w0
  have hka := sm_is_get (by omega) hs
  intro H locs cells slots ls hP hS hH hl h1 h2
  have he := sm_ws_get (dA := dA) (ba := ba) hka
  rw [sm_en_o g5] at he
  rw [sm_vs_rev]
  subst wc
  have hr := vx_runV (e := e) (below := below) (meth := meth) (locs := locs) (cells := cells) (slots := slots) (As := sm_vs b ba As) (rest := sm_vs b ba st0) (g := F0 m pc ls ((sm_vs b ba As).reverse ++ sm_v b ba (.ref a) :: sm_vs b ba st0)) ⟨c1, c2, c3, c4, c5⟩ (hR b ba D dA) ⟨sm_callB (mc := 1) (ms := 6) hC' wn (c5 _ w1) w4 w5 hdd hml, c5 _ w2, c5 _ w3⟩ ⟨sm_blindX, va_recv c9.1 hP g1 he, fun U hU hW => ⟨rfl, by rw [hU]; exact hP, c9.warm hW, hX.keep (locs := locs) hW (by rw [hU]; exact hS)⟩⟩ rfl (sm_lenA hA) hl.1 rfl (sm_hW hsum) hd ⟨by omega, by omega⟩
  intro T0 hT X
  rcases hr T0 hT X with ⟨v, st₀, t, T', L', h0, X', hL, e1, e2, hF, stp⟩ | ⟨q, st₀, t, T', L', E, ce, h0, X', hL, e1, e2, ⟨hE, hp', hf1, hf2⟩, hce, hcv, hcl, stp⟩
  · exact hF.elim
  · subst hE
    rw [h0] at hf1 hf2
    have hS' : va_S (fun q => ba ≤ q) s.heap T'.heap (locs ++ L') := ⟨Nat.le_trans hS.1 (by rw [e1]; exact hf1), fun q h1 h2 => by rw [e1, hf2 q (Nat.lt_of_lt_of_le h1 hS.1) h2]; exact hS.2.1 q h1 h2, fun q hq => by
      rcases List.mem_append.mp hq with h | h
      · exact hS.2.2 q h
      · exact hL q h⟩
    obtain ⟨t2, a1, b1⟩ := vx_catch (pc := pc) (ls := ls) (rest := sm_vs b ba st0) (own := M.1.cls) (name := "java/util/NoSuchElementException") (E := "java/util/NoSuchElementException") (ce := ce) (q := q) (Q := Q) c4 [] x [] htab (fun z hz => nomatch hz) hcov hct (c5 _ hlink) (sm_CC_bf hX wcast_nse) (by rw [e1]; exact hce) hcv hcl (k T'.heap (locs ++ L') (cells + 1) (slots + 6) ls q (by rw [e1]; exact hp') hS' hl (by omega) (by omega)) T' rfl X'
    exact ⟨t2, stp.trans a1, b1⟩
/-! helpers that have a table -/
def sm_wH (M : sm_M) (hh : List (Nat × Nat × Nat × Nat)) : List Cond := .codeWith M.1 M.2.1 M.2.2.1 M.2.2.2 hh :: sm_G
def sm_RtH (l : Launch) (M : sm_M) (hh : List (Nat × Nat × Nat × Nat)) (d mc ms : Nat) (as : List Value) (h : sm_H) (r : Option Value × sm_H) : Prop :=
  ∀ (b ba : Nat) (D : va_G) (dA : Nat → ClassId), Met l M.1 (sm_wH M hh) (sm_rm d mc ms) (sm_PcX b ba D dA as h) (sm_Qc b ba D dA false r) mc ms (fun q => ba ≤ q)
theorem sm_RtH.of {M : sm_M} {hh : List (Nat × Nat × Nat × Nat)} {d mc ms : Nat} {as : List Value} {r : Option Value × sm_H} (hpl : plainName M.1.cls = true) (hlen : (sm_ar as).length ≤ M.2.2.1)
    (body : ∀ (p : Program) (e : Env) (s : State) (m : MethodId) (args : Array Value) (below : List Frame) (meth : Method) (c : Code) (b ba : Nat) (D : va_G) (dA : Nat → ClassId), sm_C p (sm_rm d mc ms) s m args meth c M d D dA → c.exceptionTable.toList = tableOf hh → sm_XF ba s →
      sm_At p l e (sm_rm d mc ms) s m args below meth c b ba D dA M.2.2.1 false mc ms (MQ below (sm_Qc b ba D dA false r) args s mc ms (fun q => ba ≤ q)) 0 (sm_e0 as M.2.2.1) [] h) : sm_RtH l M hh d mc ms as h r := by
  intro b ba D dA
  refine va_MetW (cc := M.2.1) (maxL := M.2.2.1) (ret := M.2.2.2) (hh := hh) hpl rfl ?_
  intro p e s m args below meth c s₁ B hml hv
  obtain ⟨rfl, hP, hKK, hX⟩ := hv
  have hts := atoms_spec (ws := sm_wH M hh) B.pre
  have htb := vx_table (x := M.1) B (hts _ List.mem_cons_self)
  have hC : sm_C p (sm_rm d mc ms) s m (sm_vs b ba as).toArray meth c M d D dA := ⟨B.exec, B.bytes, hml, findClass_of_methodNamed B.named, fun w hw => hts w (List.mem_cons_of_mem _ hw), B.returns, B.notSynchronized, (name_of_methodNamed B.named B.method).1, hKK, Nat.le_refl _, Nat.le_refl _⟩
  have hl := lv_entry (sm_vs b ba as) (n := M.2.2.1) (by rw [sm_ar_len]; exact hlen)
  rw [lg_entry_eq]
  exact body p e s m (sm_vs b ba as).toArray below meth c b ba D dA hC htb hX s.heap [] 0 0 _ hP va_S.rf (fun q => Bool.noConfusion q) ⟨hl.1, hl.2.1, fun q hq => hl.2.2 q (sm_e0_args as M.2.2.1 q hq)⟩ (by show 0 + mc ≤ mc; omega) (by show 0 + ms ≤ ms; omega)
/-- a static call of a helper -/
theorem jm_callH {Y : sm_M} {hh : List (Nat × Nat × Nat × Nat)} {dY idx n mc ms : Nat} (As st0 : List Value) {r : Option Value × sm_H} (hR : sm_RtH l Y hh dY mc ms As h r) (hC : sm_C p R s m args meth c M d D dA) (hX : sm_XF ba s) (hn : sm_Cn Y n) (w1 : Cond.methodLink M.1.cls idx Y.1 ∈ sm_G) (w2 : Cond.static Y.1 ∈ sm_G) (w4 : Cond.initialized Y.1.cls ∈ sm_G) (w5 : Cond.codeWith Y.1 Y.2.1 Y.2.2.1 Y.2.2.2 hh ∈ sm_G)
    (hd : decode M.2.1 pc = .ok (.invokestatic idx, 3)) (hst : st = As.reverse ++ st0) (hA : As.length = n) (hdd : dY + 1 ≤ d) (hml : Y.2.2.1 ≤ 21) (hsum : sm_sum st0 ≤ 8)
    (k : sm_At p l e R s m args below meth c b ba D dA M.2.2.1 false rc rs Q (pc + 3) L (r.1.toList ++ st0) r.2) : sm_At p l e R s m args below meth c b ba D dA M.2.2.1 al (rc + mc) (rs + ms) Q pc L st h := by
  subst hst
  obtain ⟨c1, c2, c3, c4, c5, c6, c7, c8, c9, c10, c11⟩ := hC
  intro H locs cells slots ls hP hS hH hl h1 h2
  rw [sm_vs_rev0]
  have hcw : vx_CSW R s args M.1.cls idx Y.1 Y.2.1 Y.2.2.1 Y.2.2.2 hh (sm_wH Y hh) (sm_rm dY mc ms) mc ms n := by
    refine vx_cwSW (ws' := sm_G) n c5 (sm_good fun w hw => ?_) rfl rfl rfl hn ⟨?_, ?_⟩
    · unfold va_wsS at hw
      rcases List.mem_append.mp hw with q | q
      · rcases List.mem_cons.mp q with q | q
        · rw [q]; exact w1
        · rcases List.mem_cons.mp q with q | q
          · rw [q]; exact w2
          · rw [List.mem_singleton.mp q]; exact w4
      · rcases List.mem_cons.mp q with q | q
        · rw [q]; exact w5
        · exact q
    · show dY + 1 ≤ R.frames; omega
    · show 8 + (Y.2.2.1 + 11) + 40 * dY ≤ R.locals; omega
  refine sm_goes (vx_runSW (As := sm_vs b ba As) (rest := sm_vs b ba st0) ⟨c1, c2, c3, c4, c5⟩ (hR b ba D dA) hcw ⟨sm_blindX, fun U hU hW => ⟨rfl, by rw [hU]; exact hP, c9.warm hW, hX.keep (locs := locs) hW (by rw [hU]; exact hS)⟩⟩ rfl (sm_lenA hA) hl.1 rfl (sm_hW hsum) hd ⟨by omega, by omega⟩) hS (fun H1 locs1 q1 q2 q3 => ?_)
  rw [← sm_vs_app]
  exact k H1 locs1 _ _ ls q1 q2 q3 hl (by omega) (by omega)
end SMT
