/-! THE INSTRUCTIONS OF THE HEAP -/
/-- class ci of vwCl, with what the tables say of its fields -/
def sm_Cl (ci N : Nat) (C : String) (T : u_T) (ty : Nat → FieldType) : Prop := vwCl[ci]? = some (C, T, N) ∧ (∀ w ∈ u_ws C T N, w ∈ sm_G) ∧ (∀ k, k < N → parseFieldDescriptor (T k).2.2.1 = some (ty k)) ∧ (∀ a, a < N → ∀ b, b < N → a ≠ b → (T a).2.1 ≠ (T b).2.1) ∧ ci < 100
theorem sm_en_o {dA : Nat → ClassId} {ba a ci N : Nat} {h : sm_H} (hc : ci < 100) : sm_en dA ba h a (ci, N) = .inr (ci, sm_fl ci ba h a N) := by
  have e : Nat.blt ci 100 = true := by
    cases hb : Nat.blt ci 100 with
    | true => rfl
    | false =>
      have : Nat.ble (ci + 1) 100 = true := Nat.ble_eq_true_of_le hc
      rw [show Nat.blt ci 100 = Nat.ble (ci + 1) 100 from rfl, this] at hb
      cases hb
  unfold sm_en
  dsimp only
  rw [e]; rfl
theorem sm_fl_get {ci ba a N k : Nat} {h : sm_H} (hk : k < N) : (sm_fl ci ba h a N)[k]? = some (cond (Nat.beq (sm_fty ci k) 9) (va_rf ((h.2.2.2 a k).map (fun q => ba + q))) (.int (h.2.1 a k))) := by
  unfold sm_fl
  rw [List.getElem?_map, List.getElem?_range hk]; rfl
theorem sm_fl_len {ci ba a N : Nat} {h : sm_H} : (sm_fl ci ba h a N).length = N := by unfold sm_fl; simp
theorem sm_fl_i {ci ba a N k : Nat} {h : sm_H} {v : Int32} (hf : Nat.beq (sm_fty ci k) 9 = false) : (sm_fl ci ba h a N).set k (.int v) = sm_fl ci ba (h.1, sm_u h.2.1 a k v, h.2.2) a N := by
  apply List.ext_getElem?
  intro i
  rw [List.getElem?_set]
  by_cases hi : i < N
  · rw [sm_fl_get hi, sm_fl_get hi]
    by_cases e : k = i
    · subst e
      rw [if_pos rfl, if_pos (by rw [sm_fl_len]; exact hi), hf]
      show some (Value.int v) = some (.int (sm_u h.2.1 a k v a k))
      rw [sm_u_row]; simp
    · rw [if_neg e]
      have e2 : ¬ i = k := fun q => e q.symm
      simp only [sm_u_row, if_neg e2]
  · have n1 : (sm_fl ci ba h a N)[i]? = none := List.getElem?_eq_none (by rw [sm_fl_len]; omega)
    have n2 : (sm_fl ci ba (h.1, sm_u h.2.1 a k v, h.2.2) a N)[i]? = none := List.getElem?_eq_none (by rw [sm_fl_len]; omega)
    rw [n1, n2]
    by_cases e : k = i
    · rw [if_pos e, if_neg (by rw [sm_fl_len]; omega)]
    · rw [if_neg e]
theorem sm_fl_r {ci ba a N k : Nat} {h : sm_H} {v : Option Nat} (hf : Nat.beq (sm_fty ci k) 9 = true) : (sm_fl ci ba h a N).set k (va_rf (v.map (fun q => ba + q))) = sm_fl ci ba (h.1, h.2.1, h.2.2.1, sm_u h.2.2.2 a k v) a N := by
  apply List.ext_getElem?
  intro i
  rw [List.getElem?_set]
  by_cases hi : i < N
  · rw [sm_fl_get hi, sm_fl_get hi]
    by_cases e : k = i
    · subst e
      rw [if_pos rfl, if_pos (by rw [sm_fl_len]; exact hi), hf]
      show some (va_rf (v.map (fun q => ba + q))) = some (va_rf ((sm_u h.2.2.2 a k v a k).map (fun q => ba + q)))
      rw [sm_u_row]; simp
    · rw [if_neg e]
      have e2 : ¬ i = k := fun q => e q.symm
      simp only [sm_u_row, if_neg e2]
  · have n1 : (sm_fl ci ba h a N)[i]? = none := List.getElem?_eq_none (by rw [sm_fl_len]; omega)
    have n2 : (sm_fl ci ba (h.1, h.2.1, h.2.2.1, sm_u h.2.2.2 a k v) a N)[i]? = none := List.getElem?_eq_none (by rw [sm_fl_len]; omega)
    rw [n1, n2]
    by_cases e : k = i
    · rw [if_pos e, if_neg (by rw [sm_fl_len]; omega)]
    · rw [if_neg e]
def i_gfi (ci N k : Nat) : sm_F := fun L st h => match st with
  | .ref a :: r => cond (sm_is h a ci N) (some (L, .int (h.2.1 a k) :: r, h, [])) none
  | _ => none
def i_gfr (ci N k : Nat) : sm_F := fun L st h => match st with
  | .ref a :: r => cond (sm_is h a ci N) (some (L, sm_rf (h.2.2.2 a k) :: r, h, [])) none
  | _ => none
def i_pfi (ci N k : Nat) : sm_F := fun L st h => match st with
  | .int v :: .ref a :: r => cond (sm_is h a ci N) (some (L, r, (h.1, sm_u h.2.1 a k v, h.2.2), [])) none
  | _ => none
/-- a boolean field: 0 or 1 -/
def i_pfz (ci N k : Nat) : sm_F := fun L st h => match st with
  | .int v :: .ref a :: r => cond (and (sm_is h a ci N) (or (decide (v = 0)) (decide (v = 1)))) (some (L, r, (h.1, sm_u h.2.1 a k v, h.2.2), [])) none
  | _ => none
def i_pfr (ci N k : Nat) : sm_F := fun L st h => match st with
  | .ref q :: .ref a :: r => cond (sm_is h a ci N) (some (L, r, (h.1, h.2.1, h.2.2.1, sm_u h.2.2.2 a k (some q)), [])) none
  | _ => none
section SMH
variable {M : sm_M} {d pc : Nat}
theorem sd_gf {ci N k idx a : Nat} {C : String} {T : u_T} {ty : Nat → FieldType} (hc : sm_Cl ci N C T ty) (hd : decode M.2.1 pc = .ok (.getfield idx, 3)) (hk : k < N) {nest : Bool} {host : String} (hw : (nest = false ∧ Cond.fieldLink M.1.cls idx (T k).1 (T k).2.1 (T k).2.2.1 ∈ sm_G) ∨ (nest = true ∧ Cond.fieldLinkNest M.1.cls idx (T k).1 (T k).2.1 (T k).2.2.1 host ∈ sm_N))
    {p : Program} {l : Launch} {e : Env} {R : Room} {s : State} {m : MethodId} {args : Array Value} {below : List Frame} {meth : Method} {c : Code} {b ba : Nat} {D : va_G} {dA : Nat → ClassId} (hC : sm_C p R s m args meth c M d D dA) {al : Bool} {rc rs : Nat} {Q : State → Prop} {L r : List Value} {h : sm_H} {v : Value} (hs : sm_is h a ci N = true)
    (hv : sm_v b ba v = cond (Nat.beq (sm_fty ci k) 9) (va_rf ((h.2.2.2 a k).map (fun q => ba + q))) (.int (h.2.1 a k)))
    (hK : sm_At p l e R s m args below meth c b ba D dA M.2.2.1 al rc rs Q (pc + 3) L (v :: r) h) : sm_At p l e R s m args below meth c b ba D dA M.2.2.1 al rc rs Q pc L (.ref a :: r) h := by
  obtain ⟨g1, g2, g3, g4, g5⟩ := hc
  obtain ⟨c1, c2, c3, c4, c5, c6, c7, c8, c9, c10, c11⟩ := hC
  have hka := sm_is_get (by omega) hs
  intro H locs cells slots ls hP hS hH hl h1 h2
  have he := sm_ws_get (dA := dA) (ba := ba) hka
  rw [sm_en_o g5] at he
  have hv1 : (sm_fl ci ba h a N)[k]? = some (sm_v b ba v) := by rw [sm_fl_get hk, hv]
  rcases hw with ⟨-, hw⟩ | ⟨-, hw⟩
  · exact va_get (D := D) (ci := ci) c1 c2 c5 g2 c4 c9.1 hP a he g1 k hk (c5 _ hw) (fun _ q => q) hv1 hd (hK H locs cells slots ls hP hS hH hl h1 h2)
  · exact va_getN (D := D) (ci := ci) c1 c2 c5 g2 c4 c9.1 hP a he g1 k hk (va_Nw.use rfl (c9.2.1 _ hw)) (fun _ q => q) hv1 hd (hK H locs cells slots ls hP hS hH hl h1 h2)
theorem sd_gfi' {ci N k idx : Nat} {C : String} {T : u_T} {ty : Nat → FieldType} (hc : sm_Cl ci N C T ty) (hd : decode M.2.1 pc = .ok (.getfield idx, 3)) (hk : k < N) (hf : Nat.beq (sm_fty ci k) 9 = false) {nest : Bool} {host : String} (hw : (nest = false ∧ Cond.fieldLink M.1.cls idx (T k).1 (T k).2.1 (T k).2.2.1 ∈ sm_G) ∨ (nest = true ∧ Cond.fieldLinkNest M.1.cls idx (T k).1 (T k).2.1 (T k).2.2.1 host ∈ sm_N)) : sm_Sd M d pc (pc + 3) (i_gfi ci N k) := by
  intro p l e R s m args below meth c b ba D dA hC al rc rs Q L st L' st' h h' ob hF ho hK
  unfold i_gfi at hF
  split at hF
  · rename_i a r
    cases hs : sm_is h a ci N with
    | false => rw [hs] at hF; cases hF
    | true =>
      rw [hs] at hF
      cases hF
      exact sd_gf hc hd hk hw hC hs (by rw [hf]; rfl) hK
  · cases hF
theorem sd_gfr' {ci N k idx : Nat} {C : String} {T : u_T} {ty : Nat → FieldType} (hc : sm_Cl ci N C T ty) (hd : decode M.2.1 pc = .ok (.getfield idx, 3)) (hk : k < N) (hf : Nat.beq (sm_fty ci k) 9 = true) {nest : Bool} {host : String} (hw : (nest = false ∧ Cond.fieldLink M.1.cls idx (T k).1 (T k).2.1 (T k).2.2.1 ∈ sm_G) ∨ (nest = true ∧ Cond.fieldLinkNest M.1.cls idx (T k).1 (T k).2.1 (T k).2.2.1 host ∈ sm_N)) : sm_Sd M d pc (pc + 3) (i_gfr ci N k) := by
  intro p l e R s m args below meth c b ba D dA hC al rc rs Q L st L' st' h h' ob hF ho hK
  unfold i_gfr at hF
  split at hF
  · rename_i a r
    cases hs : sm_is h a ci N with
    | false => rw [hs] at hF; cases hF
    | true =>
      rw [hs] at hF
      cases hF
      exact sd_gf hc hd hk hw hC hs (by rw [hf, sm_v_rf]; rfl) hK
  · cases hF
theorem sd_gfi {ci N k idx : Nat} {C : String} {T : u_T} {ty : Nat → FieldType} (hc : sm_Cl ci N C T ty) (hd : decode M.2.1 pc = .ok (.getfield idx, 3)) (hk : k < N) (hf : Nat.beq (sm_fty ci k) 9 = false) (hw : Cond.fieldLink M.1.cls idx (T k).1 (T k).2.1 (T k).2.2.1 ∈ sm_G) : sm_Sd M d pc (pc + 3) (i_gfi ci N k) := sd_gfi' (nest := false) (host := "") hc hd hk hf (Or.inl ⟨rfl, hw⟩)
theorem sd_gfiN {ci N k idx : Nat} {C host : String} {T : u_T} {ty : Nat → FieldType} (hc : sm_Cl ci N C T ty) (hd : decode M.2.1 pc = .ok (.getfield idx, 3)) (hk : k < N) (hf : Nat.beq (sm_fty ci k) 9 = false) (hw : Cond.fieldLinkNest M.1.cls idx (T k).1 (T k).2.1 (T k).2.2.1 host ∈ sm_N) : sm_Sd M d pc (pc + 3) (i_gfi ci N k) := sd_gfi' (nest := true) hc hd hk hf (Or.inr ⟨rfl, hw⟩)
theorem sd_gfr {ci N k idx : Nat} {C : String} {T : u_T} {ty : Nat → FieldType} (hc : sm_Cl ci N C T ty) (hd : decode M.2.1 pc = .ok (.getfield idx, 3)) (hk : k < N) (hf : Nat.beq (sm_fty ci k) 9 = true) (hw : Cond.fieldLink M.1.cls idx (T k).1 (T k).2.1 (T k).2.2.1 ∈ sm_G) : sm_Sd M d pc (pc + 3) (i_gfr ci N k) := sd_gfr' (nest := false) (host := "") hc hd hk hf (Or.inl ⟨rfl, hw⟩)
theorem sd_gfrN {ci N k idx : Nat} {C host : String} {T : u_T} {ty : Nat → FieldType} (hc : sm_Cl ci N C T ty) (hd : decode M.2.1 pc = .ok (.getfield idx, 3)) (hk : k < N) (hf : Nat.beq (sm_fty ci k) 9 = true) (hw : Cond.fieldLinkNest M.1.cls idx (T k).1 (T k).2.1 (T k).2.2.1 host ∈ sm_N) : sm_Sd M d pc (pc + 3) (i_gfr ci N k) := sd_gfr' (nest := true) hc hd hk hf (Or.inr ⟨rfl, hw⟩)
/-- a store into a field: not final, of a nest mate, or final in the constructor -/
theorem sd_pf {ci N k idx a : Nat} {C : String} {T : u_T} {ty : Nat → FieldType} (hc : sm_Cl ci N C T ty) (hd : decode M.2.1 pc = .ok (.putfield idx, 3)) (hk : k < N) {host : String}
    (hw : ((T k).2.2.2 = false ∧ Cond.fieldLink M.1.cls idx (T k).1 (T k).2.1 (T k).2.2.1 ∈ sm_G) ∨ ((T k).2.2.2 = false ∧ Cond.fieldLinkNest M.1.cls idx (T k).1 (T k).2.1 (T k).2.2.1 host ∈ sm_N) ∨ ((T k).2.2.2 = true ∧ M.1.name = "<init>" ∧ (T k).1 = M.1.cls ∧ Cond.fieldLink M.1.cls idx (T k).1 (T k).2.1 (T k).2.2.1 ∈ sm_G))
    {p : Program} {l : Launch} {e : Env} {R : Room} {s : State} {m : MethodId} {args : Array Value} {below : List Frame} {meth : Method} {c : Code} {b ba : Nat} {D : va_G} {dA : Nat → ClassId} (hC : sm_C p R s m args meth c M d D dA) {al : Bool} {rc rs : Nat} {Q : State → Prop} {L r : List Value} {h h' : sm_H} {v : Value} (hs : sm_is h a ci N = true)
    (hn : narrow (ty k) (sm_v b ba v) = sm_v b ba v) (hfit : fits (ty k) (sm_v b ba v) = true) (hh : h'.1 = h.1) (hset : (sm_fl ci ba h a N).set k (sm_v b ba v) = sm_fl ci ba h' a N) (hne : ∀ (j : Nat) (kd : Nat × Nat), j ≠ a → sm_en dA ba h' j kd = sm_en dA ba h j kd)
    (hK : sm_At p l e R s m args below meth c b ba D dA M.2.2.1 al rc rs Q (pc + 3) L r h') : sm_At p l e R s m args below meth c b ba D dA M.2.2.1 al rc rs Q pc L (v :: .ref a :: r) h := by
  obtain ⟨g1, g2, g3, g4, g5⟩ := hc
  obtain ⟨c1, c2, c3, c4, c5, c6, c7, c8, c9, c10, c11⟩ := hC
  have hka := sm_is_get (by omega) hs
  intro H locs cells slots ls hP hS hH hl h1 h2
  have he := sm_ws_get (dA := dA) (ba := ba) hka
  rw [sm_en_o g5] at he
  obtain ⟨rr, hr1, cell, q1, q2, q3, q4⟩ := hP a _ he
  have hrr : rr = (C, T, N) := Option.some.inj (hr1.symm.trans g1)
  subst hrr
  have hap := va_apart (own := C) c5 g2 ty g3 g4 c9.1 g1
  have hKc := c9.1.1 ci _ g1
  obtain ⟨hSl, hfc, kC, hkC, hkind⟩ := hKc
  obtain ⟨cf, kf, fi, f, hi, hsl⟩ := hSl k hk
  have hst := (u_facts hfc hkC (u_lays c5 g2 hk) hi).1
  have hslot : f.slot < cell.slots.size := by rw [hsl]; exact k2_hasslot (q4 k hk)
  have done : ∀ (H1 : Heap), H1[ba + a]? = some (cell.setSlot f.slot (sm_v b ba v)) → H1.size = H.size → (∀ q, q ≠ ba + a → H1[q]? = H[q]?) → W p l e R s m args below meth c H1 (locs ++ [⟨ba + a, f.slot⟩]) cells slots Q (F0 m (pc + 3) ls (sm_vs b ba r)) := by
    intro H1 e1 e2 e3
    rw [hsl] at e1
    have hat : va_at D vwCl (ba + a, .inr (ci, (sm_fl ci ba h a N).set k (sm_v b ba v))) H1 := ⟨_, g1, t_OB.to (V := updV (vp_V (sm_fl ci ba h a N)) k (sm_v b ba v)) ⟨_, e1, q2, q3, t_set q4 hap hk (sm_v b ba v)⟩ (fun j _ => vp_updV_set (by rw [sm_fl_len]; exact hk) (sm_v b ba v) j)⟩
    have hP1 := hP.set sm_ws_D he hat e3
    rw [hset, sm_ws_set (h' := h') hka hh (sm_en_o g5) hne] at hP1
    exact hK H1 _ cells slots ls hP1 (hS.put e2 e3 (Nat.le_add_right ba a)) (fun q => by rw [e2, hh]; exact hH q) hl h1 h2
  rcases hw with ⟨hfin, hw⟩ | ⟨hfin, hw⟩ | ⟨hfin, hin, hdecl, hw⟩
  · have hlay := c5 _ (g2 _ (u_in_lay hk))
    unfold u_lay at hlay
    rw [if_neg (by rw [hfin]; decide)] at hlay
    have h6 := u_store hfc hkC hkind hlay hi (g3 k hk) hn hfit
    exact W.putK c1 c2 (f := f) ⟨c4, c5 _ hw, ⟨_, _, _, hi⟩, hst⟩ (by rw [q2]; exact h6) q1 q3 hslot rfl rfl hd done
  · have hlay := c5 _ (g2 _ (u_in_lay hk))
    unfold u_lay at hlay
    rw [if_neg (by rw [hfin]; decide)] at hlay
    have h6 := u_store hfc hkC hkind hlay hi (g3 k hk) hn hfit
    exact va_WputK c1 c2 (f := f) c4 (va_Nw.use rfl (c9.2.1 _ hw)) hi hst (by rw [q2]; exact h6) q1 q3 hslot rfl rfl hd done
  · have hlay := c5 _ (g2 _ (u_in_lay hk))
    unfold u_lay at hlay
    rw [if_pos hfin] at hlay
    have hcf : m.cls = cf := by
      obtain ⟨_, _, c', _, _, _, -, -, hf', -, -, -, hown2, -⟩ := Cond.laysFinal_spec hlay
      have e1 : c' = cf := by have := hi.symm.trans hf'; simp at this; exact this.1.symm
      rw [hdecl] at hown2
      rw [← e1]; exact Option.some.inj (c4.symm.trans hown2)
    have h6 := u_fits hfc hkC hkind (Or.inr hlay) hi (g3 k hk) hn hfit
    exact W.putFinK c1 c2 c4 (c5 _ hw) hi hst hcf (by rw [c8]; exact hin) (by rw [q2]; exact h6) q1 q3 hslot rfl rfl hd done
theorem sd_pfi {ci N k idx : Nat} {C : String} {T : u_T} {ty : Nat → FieldType} (hc : sm_Cl ci N C T ty) (hd : decode M.2.1 pc = .ok (.putfield idx, 3)) (hk : k < N) (hf : Nat.beq (sm_fty ci k) 9 = false) (hty : ty k = .int) (hfin : (T k).2.2.2 = false) (hw : Cond.fieldLink M.1.cls idx (T k).1 (T k).2.1 (T k).2.2.1 ∈ sm_G) : sm_Sd M d pc (pc + 3) (i_pfi ci N k) := by
  intro p l e R s m args below meth c b ba D dA hC al rc rs Q L st L' st' h h' ob hF ho hK
  unfold i_pfi at hF
  split at hF
  · rename_i v a r
    cases hs : sm_is h a ci N with
    | false => rw [hs] at hF; cases hF
    | true =>
      rw [hs] at hF
      cases hF
      exact sd_pf (host := "") (v := .int v) (h' := (h.1, sm_u h.2.1 a k v, h.2.2)) hc hd hk (Or.inl ⟨hfin, hw⟩) hC hs (by rw [hty]; rfl) (by rw [hty]; rfl) rfl (sm_fl_i hf) (fun j kd hj => sm_en_i hj) hK
  · cases hF
theorem sd_pfz {ci N k idx : Nat} {C : String} {T : u_T} {ty : Nat → FieldType} (hc : sm_Cl ci N C T ty) (hd : decode M.2.1 pc = .ok (.putfield idx, 3)) (hk : k < N) (hf : Nat.beq (sm_fty ci k) 9 = false) (hty : ty k = .boolean) (hfin : (T k).2.2.2 = false) (hw : Cond.fieldLink M.1.cls idx (T k).1 (T k).2.1 (T k).2.2.1 ∈ sm_G) : sm_Sd M d pc (pc + 3) (i_pfz ci N k) := by
  intro p l e R s m args below meth c b ba D dA hC al rc rs Q L st L' st' h h' ob hF ho hK
  unfold i_pfz at hF
  split at hF
  · rename_i v a r
    cases hs : and (sm_is h a ci N) (or (decide (v = 0)) (decide (v = 1))) with
    | false => rw [hs] at hF; cases hF
    | true =>
      rw [hs] at hF
      cases hF
      obtain ⟨hs1, hs2⟩ := Bool.and_eq_true_iff.mp hs
      have hv : v = 0 ∨ v = 1 := by
        rcases Bool.or_eq_true_iff.mp hs2 with q | q
        · exact Or.inl (of_decide_eq_true q)
        · exact Or.inr (of_decide_eq_true q)
      exact sd_pf (host := "") (v := .int v) (h' := (h.1, sm_u h.2.1 a k v, h.2.2)) hc hd hk (Or.inl ⟨hfin, hw⟩) hC hs1 (by rw [hty]; rcases hv with rfl | rfl <;> rfl) (by rw [hty]; rcases hv with rfl | rfl <;> rfl) rfl (sm_fl_i hf) (fun j kd hj => sm_en_i hj) hK
  · cases hF
theorem sd_pfr {ci N k idx : Nat} {C : String} {T : u_T} {ty : Nat → FieldType} (hc : sm_Cl ci N C T ty) (hd : decode M.2.1 pc = .ok (.putfield idx, 3)) (hk : k < N) (hf : Nat.beq (sm_fty ci k) 9 = true) (hty : (∃ X, ty k = .object X) ∨ ∃ X, ty k = .array X) (hfin : (T k).2.2.2 = false) (hw : Cond.fieldLink M.1.cls idx (T k).1 (T k).2.1 (T k).2.2.1 ∈ sm_G) : sm_Sd M d pc (pc + 3) (i_pfr ci N k) := by
  intro p l e R s m args below meth c b ba D dA hC al rc rs Q L st L' st' h h' ob hF ho hK
  unfold i_pfr at hF
  split at hF
  · rename_i q a r
    cases hs : sm_is h a ci N with
    | false => rw [hs] at hF; cases hF
    | true =>
      rw [hs] at hF
      cases hF
      exact sd_pf (host := "") (v := .ref q) (h' := (h.1, h.2.1, h.2.2.1, sm_u h.2.2.2 a k (some q))) hc hd hk (Or.inl ⟨hfin, hw⟩) hC hs (by rcases hty with ⟨X, hX⟩ | ⟨X, hX⟩ <;> rw [hX] <;> rfl) (by rcases hty with ⟨X, hX⟩ | ⟨X, hX⟩ <;> rw [hX] <;> rfl) rfl (sm_fl_r (v := some q) hf) (fun j kd hj => sm_en_r hj) hK
  · cases hF
theorem sd_pfiN {ci N k idx : Nat} {C : String} {T : u_T} {ty : Nat → FieldType} {host : String} (hc : sm_Cl ci N C T ty) (hd : decode M.2.1 pc = .ok (.putfield idx, 3)) (hk : k < N) (hf : Nat.beq (sm_fty ci k) 9 = false) (hty : ty k = .int) (hfin : (T k).2.2.2 = false) (hw : Cond.fieldLinkNest M.1.cls idx (T k).1 (T k).2.1 (T k).2.2.1 host ∈ sm_N) : sm_Sd M d pc (pc + 3) (i_pfi ci N k) := by
  intro p l e R s m args below meth c b ba D dA hC al rc rs Q L st L' st' h h' ob hF ho hK
  unfold i_pfi at hF
  split at hF
  · rename_i v a r
    cases hs : sm_is h a ci N with
    | false => rw [hs] at hF; cases hF
    | true =>
      rw [hs] at hF
      cases hF
      exact sd_pf (host := host) (v := .int v) (h' := (h.1, sm_u h.2.1 a k v, h.2.2)) hc hd hk (Or.inr (Or.inl ⟨hfin, hw⟩)) hC hs (by rw [hty]; rfl) (by rw [hty]; rfl) rfl (sm_fl_i hf) (fun j kd hj => sm_en_i hj) hK
  · cases hF
theorem sd_pfzN {ci N k idx : Nat} {C : String} {T : u_T} {ty : Nat → FieldType} {host : String} (hc : sm_Cl ci N C T ty) (hd : decode M.2.1 pc = .ok (.putfield idx, 3)) (hk : k < N) (hf : Nat.beq (sm_fty ci k) 9 = false) (hty : ty k = .boolean) (hfin : (T k).2.2.2 = false) (hw : Cond.fieldLinkNest M.1.cls idx (T k).1 (T k).2.1 (T k).2.2.1 host ∈ sm_N) : sm_Sd M d pc (pc + 3) (i_pfz ci N k) := by
  intro p l e R s m args below meth c b ba D dA hC al rc rs Q L st L' st' h h' ob hF ho hK
  unfold i_pfz at hF
  split at hF
  · rename_i v a r
    cases hs : and (sm_is h a ci N) (or (decide (v = 0)) (decide (v = 1))) with
    | false => rw [hs] at hF; cases hF
    | true =>
      rw [hs] at hF
      cases hF
      obtain ⟨hs1, hs2⟩ := Bool.and_eq_true_iff.mp hs
      have hv : v = 0 ∨ v = 1 := by
        rcases Bool.or_eq_true_iff.mp hs2 with q | q
        · exact Or.inl (of_decide_eq_true q)
        · exact Or.inr (of_decide_eq_true q)
      exact sd_pf (host := host) (v := .int v) (h' := (h.1, sm_u h.2.1 a k v, h.2.2)) hc hd hk (Or.inr (Or.inl ⟨hfin, hw⟩)) hC hs1 (by rw [hty]; rcases hv with rfl | rfl <;> rfl) (by rw [hty]; rcases hv with rfl | rfl <;> rfl) rfl (sm_fl_i hf) (fun j kd hj => sm_en_i hj) hK
  · cases hF
theorem sd_pfrN {ci N k idx : Nat} {C : String} {T : u_T} {ty : Nat → FieldType} {host : String} (hc : sm_Cl ci N C T ty) (hd : decode M.2.1 pc = .ok (.putfield idx, 3)) (hk : k < N) (hf : Nat.beq (sm_fty ci k) 9 = true) (hty : (∃ X, ty k = .object X) ∨ ∃ X, ty k = .array X) (hfin : (T k).2.2.2 = false) (hw : Cond.fieldLinkNest M.1.cls idx (T k).1 (T k).2.1 (T k).2.2.1 host ∈ sm_N) : sm_Sd M d pc (pc + 3) (i_pfr ci N k) := by
  intro p l e R s m args below meth c b ba D dA hC al rc rs Q L st L' st' h h' ob hF ho hK
  unfold i_pfr at hF
  split at hF
  · rename_i q a r
    cases hs : sm_is h a ci N with
    | false => rw [hs] at hF; cases hF
    | true =>
      rw [hs] at hF
      cases hF
      exact sd_pf (host := host) (v := .ref q) (h' := (h.1, h.2.1, h.2.2.1, sm_u h.2.2.2 a k (some q))) hc hd hk (Or.inr (Or.inl ⟨hfin, hw⟩)) hC hs (by rcases hty with ⟨X, hX⟩ | ⟨X, hX⟩ <;> rw [hX] <;> rfl) (by rcases hty with ⟨X, hX⟩ | ⟨X, hX⟩ <;> rw [hX] <;> rfl) rfl (sm_fl_r (v := some q) hf) (fun j kd hj => sm_en_r hj) hK
  · cases hF
theorem sd_pfiF {ci N k idx : Nat} {C : String} {T : u_T} {ty : Nat → FieldType} (hc : sm_Cl ci N C T ty) (hd : decode M.2.1 pc = .ok (.putfield idx, 3)) (hk : k < N) (hf : Nat.beq (sm_fty ci k) 9 = false) (hty : ty k = .int) (hfin : (T k).2.2.2 = true) (hin : M.1.name = "<init>") (hdecl : (T k).1 = M.1.cls) (hw : Cond.fieldLink M.1.cls idx (T k).1 (T k).2.1 (T k).2.2.1 ∈ sm_G) : sm_Sd M d pc (pc + 3) (i_pfi ci N k) := by
  intro p l e R s m args below meth c b ba D dA hC al rc rs Q L st L' st' h h' ob hF ho hK
  unfold i_pfi at hF
  split at hF
  · rename_i v a r
    cases hs : sm_is h a ci N with
    | false => rw [hs] at hF; cases hF
    | true =>
      rw [hs] at hF
      cases hF
      exact sd_pf (host := "") (v := .int v) (h' := (h.1, sm_u h.2.1 a k v, h.2.2)) hc hd hk (Or.inr (Or.inr ⟨hfin, hin, hdecl, hw⟩)) hC hs (by rw [hty]; rfl) (by rw [hty]; rfl) rfl (sm_fl_i hf) (fun j kd hj => sm_en_i hj) hK
  · cases hF
theorem sd_pfzF {ci N k idx : Nat} {C : String} {T : u_T} {ty : Nat → FieldType} (hc : sm_Cl ci N C T ty) (hd : decode M.2.1 pc = .ok (.putfield idx, 3)) (hk : k < N) (hf : Nat.beq (sm_fty ci k) 9 = false) (hty : ty k = .boolean) (hfin : (T k).2.2.2 = true) (hin : M.1.name = "<init>") (hdecl : (T k).1 = M.1.cls) (hw : Cond.fieldLink M.1.cls idx (T k).1 (T k).2.1 (T k).2.2.1 ∈ sm_G) : sm_Sd M d pc (pc + 3) (i_pfz ci N k) := by
  intro p l e R s m args below meth c b ba D dA hC al rc rs Q L st L' st' h h' ob hF ho hK
  unfold i_pfz at hF
  split at hF
  · rename_i v a r
    cases hs : and (sm_is h a ci N) (or (decide (v = 0)) (decide (v = 1))) with
    | false => rw [hs] at hF; cases hF
    | true =>
      rw [hs] at hF
      cases hF
      obtain ⟨hs1, hs2⟩ := Bool.and_eq_true_iff.mp hs
      have hv : v = 0 ∨ v = 1 := by
        rcases Bool.or_eq_true_iff.mp hs2 with q | q
        · exact Or.inl (of_decide_eq_true q)
        · exact Or.inr (of_decide_eq_true q)
      exact sd_pf (host := "") (v := .int v) (h' := (h.1, sm_u h.2.1 a k v, h.2.2)) hc hd hk (Or.inr (Or.inr ⟨hfin, hin, hdecl, hw⟩)) hC hs1 (by rw [hty]; rcases hv with rfl | rfl <;> rfl) (by rw [hty]; rcases hv with rfl | rfl <;> rfl) rfl (sm_fl_i hf) (fun j kd hj => sm_en_i hj) hK
  · cases hF
theorem sd_pfrF {ci N k idx : Nat} {C : String} {T : u_T} {ty : Nat → FieldType} (hc : sm_Cl ci N C T ty) (hd : decode M.2.1 pc = .ok (.putfield idx, 3)) (hk : k < N) (hf : Nat.beq (sm_fty ci k) 9 = true) (hty : (∃ X, ty k = .object X) ∨ ∃ X, ty k = .array X) (hfin : (T k).2.2.2 = true) (hin : M.1.name = "<init>") (hdecl : (T k).1 = M.1.cls) (hw : Cond.fieldLink M.1.cls idx (T k).1 (T k).2.1 (T k).2.2.1 ∈ sm_G) : sm_Sd M d pc (pc + 3) (i_pfr ci N k) := by
  intro p l e R s m args below meth c b ba D dA hC al rc rs Q L st L' st' h h' ob hF ho hK
  unfold i_pfr at hF
  split at hF
  · rename_i q a r
    cases hs : sm_is h a ci N with
    | false => rw [hs] at hF; cases hF
    | true =>
      rw [hs] at hF
      cases hF
      exact sd_pf (host := "") (v := .ref q) (h' := (h.1, h.2.1, h.2.2.1, sm_u h.2.2.2 a k (some q))) hc hd hk (Or.inr (Or.inr ⟨hfin, hin, hdecl, hw⟩)) hC hs (by rcases hty with ⟨X, hX⟩ | ⟨X, hX⟩ <;> rw [hX] <;> rfl) (by rcases hty with ⟨X, hX⟩ | ⟨X, hX⟩ <;> rw [hX] <;> rfl) rfl (sm_fl_r (v := some q) hf) (fun j kd hj => sm_en_r hj) hK
  · cases hF
end SMH
/-! ARRAYS -/
def sm_tag (h : sm_H) (a t : Nat) : Bool := Nat.beq (sm_kd h.1 a).1 t
def i_ia (t : Nat) : sm_F := fun L st h => match st with
  | .int i :: .ref a :: r => cond (sm_tag h a t) (some (L, .int (h.2.1 a i.toNatClampNeg) :: r, h, [(i, (sm_kd h.1 a).2)])) none
  | _ => none
def i_la : sm_F := fun L st h => match st with
  | .int i :: .ref a :: r => cond (sm_tag h a 101) (some (L, .long (h.2.2.1 a i.toNatClampNeg) :: r, h, [(i, (sm_kd h.1 a).2)])) none
  | _ => none
def i_aa (t : Nat) : sm_F := fun L st h => match st with
  | .int i :: .ref a :: r => cond (sm_tag h a t) (some (L, sm_rf (h.2.2.2 a i.toNatClampNeg) :: r, h, [(i, (sm_kd h.1 a).2)])) none
  | _ => none
def i_is_a (t : Nat) (f : Int32 → Int32) : sm_F := fun L st h => match st with
  | .int x :: .int i :: .ref a :: r => cond (sm_tag h a t) (some (L, r, (h.1, sm_u h.2.1 a i.toNatClampNeg (f x), h.2.2), [(i, (sm_kd h.1 a).2)])) none
  | _ => none
def i_ls_a : sm_F := fun L st h => match st with
  | .long x :: .int i :: .ref a :: r => cond (sm_tag h a 101) (some (L, r, (h.1, h.2.1, sm_u h.2.2.1 a i.toNatClampNeg x, h.2.2.2), [(i, (sm_kd h.1 a).2)])) none
  | _ => none
def i_as_a (t ci N : Nat) : sm_F := fun L st h => match st with
  | .ref q :: .int i :: .ref a :: r => cond (and (sm_tag h a t) (sm_is h q ci N)) (some (L, r, (h.1, h.2.1, h.2.2.1, sm_u h.2.2.2 a i.toNatClampNeg (some q)), [(i, (sm_kd h.1 a).2)])) none
  | _ => none
theorem sm_en_ia {dA : Nat → ClassId} {ba a t n : Nat} {h : sm_H} (h1 : Nat.blt t 100 = false) (h2 : Nat.beq t 101 = false) (h3 : Nat.blt t 150 = true) : sm_en dA ba h a (t, n) = .inl (dA t, n, .inl (h.2.1 a)) := by
  unfold sm_en
  dsimp only
  rw [h1, h2, h3]; rfl
theorem sm_en_la {dA : Nat → ClassId} {ba a n : Nat} {h : sm_H} : sm_en dA ba h a (101, n) = .inl (dA 101, n, .inr (.inl (h.2.2.1 a))) := rfl
theorem sm_en_aa {dA : Nat → ClassId} {ba a t n : Nat} {h : sm_H} (h1 : Nat.blt t 100 = false) (h2 : Nat.beq t 101 = false) (h3 : Nat.blt t 150 = false) : sm_en dA ba h a (t, n) = .inl (dA t, n, .inr (.inr (.inr (.inr (fun j => (h.2.2.2 a j).map (fun q => ba + q)))))) := by
  unfold sm_en
  dsimp only
  rw [h1, h2, h3]; rfl
theorem sm_up_i {f : Nat → Int32} {g : Nat → Nat → Int32} {a k : Nat} {v : Int32} (hf : f = g a) : (fun j => Value.int (sm_u g a k v a j)) = updV (fun j => .int (f j)) k (.int v) := by
  subst hf
  funext j
  rw [sm_u_row]
  unfold updV
  by_cases e : j = k <;> simp [e]
/-- behind a store into an array -/
theorem sm_stored {p : Program} {l : Launch} {e : Env} {R : Room} {s : State} {m : MethodId} {args : Array Value} {below : List Frame} {meth : Method} {c : Code} {b ba : Nat} {D : va_G} {dA : Nat → ClassId} {nL : Nat} {al : Bool} {rc rs : Nat} {Q : State → Prop} {pc1 : Nat} {L r : List Value} {h h' : sm_H} {a k : Nat} {kd : Nat × Nat} {e0 : va_E}
    {H : Heap} {locs : List Loc} {cells slots : Nat} {ls : Array Slot} (hP : va_P D vwCl (sm_ws dA ba h) H) (hS : va_S (fun q => ba ≤ q) s.heap H locs) (hH : al = true → H.size = ba + h.1.length) (hl : lv_has ls nL (sm_pr b ba 0 L)) (h1 : cells + rc ≤ R.cells) (h2 : slots + rs ≤ R.slots)
    (hk : h.1[a]? = some kd) (hh : h'.1 = h.1) (he : sm_en dA ba h' a kd = e0) (hne : ∀ (j : Nat) (kd : Nat × Nat), j ≠ a → sm_en dA ba h' j kd = sm_en dA ba h j kd)
    (hK : sm_At p l e R s m args below meth c b ba D dA nL al rc rs Q pc1 L r h') {H1 : Heap} (hat : va_at D vwCl (ba + a, e0) H1) (e2 : H1.size = H.size) (e3 : ∀ q, q ≠ ba + a → H1[q]? = H[q]?) : W p l e R s m args below meth c H1 (locs ++ [⟨ba + a, k⟩]) cells slots Q (F0 m pc1 ls (sm_vs b ba r)) := by
  have hP1 := hP.set sm_ws_D (sm_ws_get hk) hat e3
  rw [sm_ws_set (h' := h') hk hh he hne] at hP1
  exact hK H1 _ cells slots ls hP1 (hS.put e2 e3 (Nat.le_add_right ba a)) (fun q => by rw [e2, hh]; exact hH q) hl h1 h2
section SMA
variable {M : sm_M} {d pc : Nat}
theorem sm_tyK {D : va_G} {dA : Nat → ClassId} {s : State} (hK : sm_KK D dA s) {t i : Nat} {ty : FieldType} (ht : sm_tags[i]? = some (t, ty)) : (sm_tys dA)[i]? = some (dA t, ty) := by
  unfold sm_tys
  rw [List.getElem?_map, ht]; rfl
theorem sd_iaload {i0 : Nat} (hd : decode M.2.1 pc = .ok (.iaload, 1)) (ht : sm_tags[i0]? = some (100, .int)) : sm_Sd M d pc (pc + 1) (i_ia 100) := by
  intro p l e R s m args below meth c b ba D dA hC al rc rs Q L st L' st' h h' ob hF ho hK
  unfold i_ia at hF
  split at hF
  · rename_i i a r
    cases hs : sm_tag h a 100 with
    | false => rw [hs] at hF; cases hF
    | true =>
      rw [hs] at hF
      cases hF
      have hka := sm_tag_get (by decide) hs
      obtain ⟨c1, c2, c3, c4, c5, c6, c7, c8, c9, c10, c11⟩ := hC
      intro H locs cells slots ls hP hS hH hl h1 h2
      have he := sm_ws_get (dA := dA) (ba := ba) hka
      rw [sm_en_ia rfl rfl rfl] at he
      exact va_iald c1 c2 c9.1 hP a i0 he (sm_tyK c9 ht) (ho _ List.mem_cons_self) hd (hK H locs cells slots ls hP hS hH hl h1 h2)
  · cases hF
theorem sd_caload {i0 : Nat} (hd : decode M.2.1 pc = .ok (.caload, 1)) (ht : sm_tags[i0]? = some (102, .char)) : sm_Sd M d pc (pc + 1) (i_ia 102) := by
  intro p l e R s m args below meth c b ba D dA hC al rc rs Q L st L' st' h h' ob hF ho hK
  unfold i_ia at hF
  split at hF
  · rename_i i a r
    cases hs : sm_tag h a 102 with
    | false => rw [hs] at hF; cases hF
    | true =>
      rw [hs] at hF
      cases hF
      have hka := sm_tag_get (by decide) hs
      obtain ⟨c1, c2, c3, c4, c5, c6, c7, c8, c9, c10, c11⟩ := hC
      intro H locs cells slots ls hP hS hH hl h1 h2
      have he := sm_ws_get (dA := dA) (ba := ba) hka
      rw [sm_en_ia rfl rfl rfl] at he
      exact va_cald c1 c2 c9.1 hP a i0 he (sm_tyK c9 ht) (ho _ List.mem_cons_self) hd (hK H locs cells slots ls hP hS hH hl h1 h2)
  · cases hF
theorem sd_zaload {i0 : Nat} (hd : decode M.2.1 pc = .ok (.baload, 1)) (ht : sm_tags[i0]? = some (103, .boolean)) : sm_Sd M d pc (pc + 1) (i_ia 103) := by
  intro p l e R s m args below meth c b ba D dA hC al rc rs Q L st L' st' h h' ob hF ho hK
  unfold i_ia at hF
  split at hF
  · rename_i i a r
    cases hs : sm_tag h a 103 with
    | false => rw [hs] at hF; cases hF
    | true =>
      rw [hs] at hF
      cases hF
      have hka := sm_tag_get (by decide) hs
      obtain ⟨c1, c2, c3, c4, c5, c6, c7, c8, c9, c10, c11⟩ := hC
      intro H locs cells slots ls hP hS hH hl h1 h2
      have he := sm_ws_get (dA := dA) (ba := ba) hka
      rw [sm_en_ia rfl rfl rfl] at he
      exact va_zald c1 c2 c9.1 hP a i0 he (sm_tyK c9 ht) (ho _ List.mem_cons_self) hd (hK H locs cells slots ls hP hS hH hl h1 h2)
  · cases hF
theorem sd_laload {i0 : Nat} (hd : decode M.2.1 pc = .ok (.laload, 1)) (ht : sm_tags[i0]? = some (101, .long)) : sm_Sd M d pc (pc + 1) i_la := by
  intro p l e R s m args below meth c b ba D dA hC al rc rs Q L st L' st' h h' ob hF ho hK
  unfold i_la at hF
  split at hF
  · rename_i i a r
    cases hs : sm_tag h a 101 with
    | false => rw [hs] at hF; cases hF
    | true =>
      rw [hs] at hF
      cases hF
      have hka := sm_tag_get (by decide) hs
      obtain ⟨c1, c2, c3, c4, c5, c6, c7, c8, c9, c10, c11⟩ := hC
      intro H locs cells slots ls hP hS hH hl h1 h2
      have he := sm_ws_get (dA := dA) (ba := ba) hka
      rw [sm_en_la] at he
      exact va_lald c1 c2 c9.1 hP a i0 he (sm_tyK c9 ht) (ho _ List.mem_cons_self) hd (hK H locs cells slots ls hP hS hH hl h1 h2)
  · cases hF
theorem sd_aaload {i0 t : Nat} {ty : FieldType} (hd : decode M.2.1 pc = .ok (.aaload, 1)) (ht : sm_tags[i0]? = some (t, ty)) (hr : ty.isReference = true) (t1 : Nat.blt t 100 = false) (t2 : Nat.beq t 101 = false) (t3 : Nat.blt t 150 = false) (t4 : t < 999) : sm_Sd M d pc (pc + 1) (i_aa t) := by
  intro p l e R s m args below meth c b ba D dA hC al rc rs Q L st L' st' h h' ob hF ho hK
  unfold i_aa at hF
  split at hF
  · rename_i i a r
    cases hs : sm_tag h a t with
    | false => rw [hs] at hF; cases hF
    | true =>
      rw [hs] at hF
      cases hF
      have hka := sm_tag_get t4 hs
      obtain ⟨c1, c2, c3, c4, c5, c6, c7, c8, c9, c10, c11⟩ := hC
      intro H locs cells slots ls hP hS hH hl h1 h2
      have he := sm_ws_get (dA := dA) (ba := ba) hka
      rw [sm_en_aa t1 t2 t3] at he
      have hin := ho _ List.mem_cons_self
      have hlt : i.toNatClampNeg < (sm_kd h.1 a).2 := Nat.not_le.mp fun q => hin (Or.inr q)
      have hk := hK H locs cells slots ls hP hS hH hl h1 h2
      rw [sm_vs_cons, sm_v_rf] at hk
      exact W.aald (ty := ty) c1 c2 (hP a _ he) ((c9.1.2 i0 _ (sm_tyK c9 ht)).1 _ (fun j => va_rf ((h.2.2.2 a j).map (fun q => ba + q)))) hr (fun q => by cases q) (by show ¬ (i < 0 ∨ (arrV _ _ _).slots.size ≤ _); rw [arrV_size]; exact hin) (by show (arrV _ _ _).slots[_]? = _; rw [arrV_read _ _ hlt]) rfl rfl hd hk
  · cases hF
theorem sd_iastore {i0 : Nat} (hd : decode M.2.1 pc = .ok (.iastore, 1)) (ht : sm_tags[i0]? = some (100, .int)) : sm_Sd M d pc (pc + 1) (i_is_a 100 (fun x => x)) := by
  intro p l e R s m args below meth c b ba D dA hC al rc rs Q L st L' st' h h' ob hF ho hK
  unfold i_is_a at hF
  split at hF
  · rename_i x i a r
    cases hs : sm_tag h a 100 with
    | false => rw [hs] at hF; cases hF
    | true =>
      rw [hs] at hF
      cases hF
      have hka := sm_tag_get (by decide) hs
      obtain ⟨c1, c2, c3, c4, c5, c6, c7, c8, c9, c10, c11⟩ := hC
      intro H locs cells slots ls hP hS hH hl h1 h2
      have he := sm_ws_get (dA := dA) (ba := ba) hka
      rw [sm_en_ia rfl rfl rfl] at he
      have hin := ho _ List.mem_cons_self
      refine W.iast c1 c2 (hP a _ he) ((c9.1.2 i0 _ (sm_tyK c9 ht)).1 _ (fun j => .int (h.2.1 a j))) (fun q => by cases q) (by show ¬ (i < 0 ∨ (arrV _ _ _).slots.size ≤ _); rw [arrV_size]; exact hin) rfl rfl hd fun H1 e1 z oq => ?_
      refine sm_stored (h' := (h.1, sm_u h.2.1 a i.toNatClampNeg (x), h.2.2)) hP hS hH hl h1 h2 hka rfl (sm_en_ia (h := (h.1, sm_u h.2.1 a i.toNatClampNeg (x), h.2.2)) rfl rfl rfl) (fun j kd hj => sm_en_i hj) hK ?_ z oq
      show H1[ba + a]? = some (vp_cell _ _)
      rw [e1, vp_cell_i, vp_cell_i, arrV_store]
      congr 2
      exact (sm_up_i rfl).symm
  · cases hF
theorem sd_castore {i0 : Nat} (hd : decode M.2.1 pc = .ok (.castore, 1)) (ht : sm_tags[i0]? = some (102, .char)) : sm_Sd M d pc (pc + 1) (i_is_a 102 (fun x => vp_nar .char x)) := by
  intro p l e R s m args below meth c b ba D dA hC al rc rs Q L st L' st' h h' ob hF ho hK
  unfold i_is_a at hF
  split at hF
  · rename_i x i a r
    cases hs : sm_tag h a 102 with
    | false => rw [hs] at hF; cases hF
    | true =>
      rw [hs] at hF
      cases hF
      have hka := sm_tag_get (by decide) hs
      obtain ⟨c1, c2, c3, c4, c5, c6, c7, c8, c9, c10, c11⟩ := hC
      intro H locs cells slots ls hP hS hH hl h1 h2
      have he := sm_ws_get (dA := dA) (ba := ba) hka
      rw [sm_en_ia rfl rfl rfl] at he
      have hin := ho _ List.mem_cons_self
      refine W.cast c1 c2 (hP a _ he) ((c9.1.2 i0 _ (sm_tyK c9 ht)).1 _ (fun j => .int (h.2.1 a j))) (fun q => by cases q) (by show ¬ (i < 0 ∨ (arrV _ _ _).slots.size ≤ _); rw [arrV_size]; exact hin) rfl rfl hd fun H1 e1 z oq => ?_
      refine sm_stored (h' := (h.1, sm_u h.2.1 a i.toNatClampNeg (vp_nar .char x), h.2.2)) hP hS hH hl h1 h2 hka rfl (sm_en_ia (h := (h.1, sm_u h.2.1 a i.toNatClampNeg (vp_nar .char x), h.2.2)) rfl rfl rfl) (fun j kd hj => sm_en_i hj) hK ?_ z oq
      show H1[ba + a]? = some (vp_cell _ _)
      rw [e1, vp_cell_i, vp_cell_i, arrV_store]
      congr 2
      exact (sm_up_i rfl).symm
  · cases hF
theorem sd_zastore {i0 : Nat} (hd : decode M.2.1 pc = .ok (.bastore, 1)) (ht : sm_tags[i0]? = some (103, .boolean)) : sm_Sd M d pc (pc + 1) (i_is_a 103 (fun x => vp_nar .boolean x)) := by
  intro p l e R s m args below meth c b ba D dA hC al rc rs Q L st L' st' h h' ob hF ho hK
  unfold i_is_a at hF
  split at hF
  · rename_i x i a r
    cases hs : sm_tag h a 103 with
    | false => rw [hs] at hF; cases hF
    | true =>
      rw [hs] at hF
      cases hF
      have hka := sm_tag_get (by decide) hs
      obtain ⟨c1, c2, c3, c4, c5, c6, c7, c8, c9, c10, c11⟩ := hC
      intro H locs cells slots ls hP hS hH hl h1 h2
      have he := sm_ws_get (dA := dA) (ba := ba) hka
      rw [sm_en_ia rfl rfl rfl] at he
      have hin := ho _ List.mem_cons_self
      refine W.zast c1 c2 (hP a _ he) ((c9.1.2 i0 _ (sm_tyK c9 ht)).1 _ (fun j => .int (h.2.1 a j))) (fun q => by cases q) (by show ¬ (i < 0 ∨ (arrV _ _ _).slots.size ≤ _); rw [arrV_size]; exact hin) rfl rfl hd fun H1 e1 z oq => ?_
      refine sm_stored (h' := (h.1, sm_u h.2.1 a i.toNatClampNeg (vp_nar .boolean x), h.2.2)) hP hS hH hl h1 h2 hka rfl (sm_en_ia (h := (h.1, sm_u h.2.1 a i.toNatClampNeg (vp_nar .boolean x), h.2.2)) rfl rfl rfl) (fun j kd hj => sm_en_i hj) hK ?_ z oq
      show H1[ba + a]? = some (vp_cell _ _)
      rw [e1, vp_cell_i, vp_cell_i, arrV_store]
      congr 2
      exact (sm_up_i rfl).symm
  · cases hF
theorem sd_lastore {i0 : Nat} (hd : decode M.2.1 pc = .ok (.lastore, 1)) (ht : sm_tags[i0]? = some (101, .long)) : sm_Sd M d pc (pc + 1) i_ls_a := by
  intro p l e R s m args below meth c b ba D dA hC al rc rs Q L st L' st' h h' ob hF ho hK
  unfold i_ls_a at hF
  split at hF
  · rename_i x i a r
    cases hs : sm_tag h a 101 with
    | false => rw [hs] at hF; cases hF
    | true =>
      rw [hs] at hF
      cases hF
      have hka := sm_tag_get (by decide) hs
      obtain ⟨c1, c2, c3, c4, c5, c6, c7, c8, c9, c10, c11⟩ := hC
      intro H locs cells slots ls hP hS hH hl h1 h2
      have he := sm_ws_get (dA := dA) (ba := ba) hka
      rw [sm_en_la] at he
      have hin := ho _ List.mem_cons_self
      refine W.last c1 c2 (hP a _ he) ((c9.1.2 i0 _ (sm_tyK c9 ht)).1 _ (fun j => .long (h.2.2.1 a j))) (fun q => by cases q) (by show ¬ (i < 0 ∨ (arrV _ _ _).slots.size ≤ _); rw [arrV_size]; exact hin) rfl rfl hd fun H1 e1 z oq => ?_
      refine sm_stored (h' := (h.1, h.2.1, sm_u h.2.2.1 a i.toNatClampNeg x, h.2.2.2)) hP hS hH hl h1 h2 hka rfl (sm_en_la (h := (h.1, h.2.1, sm_u h.2.2.1 a i.toNatClampNeg x, h.2.2.2))) (fun j kd hj => sm_en_l hj) hK ?_ z oq
      show H1[ba + a]? = some (vp_cell _ _)
      rw [e1, vp_cell_l, vp_cell_l, arrV_store]
      congr 2
      funext j
      dsimp only
      rw [sm_u_row]
      unfold updV
      by_cases e : j = i.toNatClampNeg <;> simp [e]
  · cases hF
theorem sd_aastore {i0 t ci N : Nat} {C : String} {T : u_T} {ty : Nat → FieldType} (hc : sm_Cl ci N C T ty) (hd : decode M.2.1 pc = .ok (.aastore, 1)) (ht : sm_tags[i0]? = some (t, .object C)) (t1 : Nat.blt t 100 = false) (t2 : Nat.beq t 101 = false) (t3 : Nat.blt t 150 = false) (t4 : t < 999) : sm_Sd M d pc (pc + 1) (i_as_a t ci N) := by
  intro p l e R s m args below meth c b ba D dA hC al rc rs Q L st L' st' h h' ob hF ho hK
  unfold i_as_a at hF
  split at hF
  · rename_i q i a r
    cases hs0 : and (sm_tag h a t) (sm_is h q ci N) with
    | false => rw [hs0] at hF; cases hF
    | true =>
      rw [hs0] at hF
      cases hF
      obtain ⟨hs, hsq⟩ := Bool.and_eq_true_iff.mp hs0
      obtain ⟨g1, g2, g3, g4, g5⟩ := hc
      have hka := sm_tag_get t4 hs
      have hkq := sm_is_get (by omega) hsq
      obtain ⟨c1, c2, c3, c4, c5, c6, c7, c8, c9, c10, c11⟩ := hC
      intro H locs cells slots ls hP hS hH hl h1 h2
      have he := sm_ws_get (dA := dA) (ba := ba) hka
      rw [sm_en_aa t1 t2 t3] at he
      have hq := sm_ws_get (dA := dA) (ba := ba) hkq
      rw [sm_en_o g5] at hq
      have hin := ho _ List.mem_cons_self
      have hlt : i.toNatClampNeg < (sm_kd h.1 a).2 := Nat.not_le.mp fun q => hin (Or.inr q)
      have h0 : ¬ i < 0 := fun q => hin (Or.inl q)
      obtain ⟨r', hr', cellV, y1, y2, y3, -⟩ := hP q _ hq
      have hcls := (c9.1.1 ci _ g1).2
      obtain ⟨kA, comp, k1, k2, k3, -⟩ := (c9.1.2 i0 _ (sm_tyK c9 ht)).2
      have hcomp : comp = D.1 ci := Option.some.inj (k3.symm.trans hcls.1)
      subst hcomp
      obtain ⟨kC, hkC, -⟩ := hcls.2
      refine W.aast c1 c2 (hP a _ he) (fun q h => by cases h) (fun h => by cases h) k1 k2 rfl hkC ⟨h0, by show _ < (arrV _ _ _).slots.size; rw [arrV_size]; exact hlt⟩ y1 (fun q h => by rw [y3] at h; cases h) (by rw [y2]; exact hkC) (by rw [y2]; exact va_assign hcls) rfl rfl hd fun H1 e1 z oq => ?_
      refine sm_stored (h' := (h.1, h.2.1, h.2.2.1, sm_u h.2.2.2 a i.toNatClampNeg (some q))) hP hS hH hl h1 h2 hka rfl (sm_en_aa (h := (h.1, h.2.1, h.2.2.1, sm_u h.2.2.2 a i.toNatClampNeg (some q))) t1 t2 t3) (fun j kd hj => sm_en_r hj) hK ?_ z oq
      show H1[ba + a]? = some (vp_cell _ _)
      rw [e1, vp_cell_q, vp_cell_q, arrV_store]
      congr 2
      funext j
      dsimp only
      rw [sm_u_row]
      unfold updV
      by_cases e : j = i.toNatClampNeg <;> simp [e, va_rf]
  · cases hF
def i_len (t : Nat) : sm_F := fun L st h => match st with
  | .ref a :: r => cond (sm_tag h a t) (some (L, .int (Int32.ofNat (sm_kd h.1 a).2) :: r, h, [])) none
  | _ => none
theorem sd_alen {i0 : Nat} (hd : decode M.2.1 pc = .ok (.arraylength, 1)) (ht : sm_tags[i0]? = some (101, .long)) : sm_Sd M d pc (pc + 1) (i_len 101) := by
  intro p l e R s m args below meth c b ba D dA hC al rc rs Q L st L' st' h h' ob hF ho hK
  unfold i_len at hF
  split at hF
  · rename_i a r
    cases hs : sm_tag h a 101 with
    | false => rw [hs] at hF; cases hF
    | true =>
      rw [hs] at hF
      cases hF
      have hka := sm_tag_get (by decide) hs
      obtain ⟨c1, c2, c3, c4, c5, c6, c7, c8, c9, c10, c11⟩ := hC
      intro H locs cells slots ls hP hS hH hl h1 h2
      have he := sm_ws_get (dA := dA) (ba := ba) hka
      rw [sm_en_la] at he
      exact va_alen c1 c2 c9.1 hP a i0 he (sm_tyK c9 ht) rfl hd (hK H locs cells slots ls hP hS hH hl h1 h2)
  · cases hF
end SMA
/-! WHAT IS MADE, ENDS, CALLS -/
def sm_Pc (b ba : Nat) (D : va_G) (dA : Nat → ClassId) (al : Bool) (as : List Value) (h : sm_H) : Array Value → State → Prop := fun a U => a = (sm_vs b ba as).toArray ∧ va_P D vwCl (sm_ws dA ba h) U.heap ∧ sm_KK D dA U ∧ (al = true → U.heap.size = ba + h.1.length)
def sm_Qc (b ba : Nat) (D : va_G) (dA : Nat → ClassId) (al' : Bool) (r : Option Value × sm_H) : Array Value → State → Outcome → State → Prop := fun _ st o t => o = .returned (r.1.map (sm_v b ba)) ∧ va_P D vwCl (sm_ws dA ba r.2) t.heap ∧ (al' = true → t.heap.size = ba + r.2.1.length) ∧ va_F (fun q => ba ≤ q) st t
def sm_rm (d mc ms : Nat) : Room := { frames := d, cells := mc, slots := ms, locals := 40 * d }
/-- method M, called with as in the heap h, returns r; it makes mc cells of ms slots; al: no cell but the picture's has been made since the start -/
def sm_Rt (l : Launch) (M : sm_M) (d mc ms : Nat) (al al' : Bool) (as : List Value) (h : sm_H) (r : Option Value × sm_H) : Prop :=
  ∀ (b ba : Nat) (D : va_G) (dA : Nat → ClassId), Met l M.1 (sm_w M) (sm_rm d mc ms) (sm_Pc b ba D dA al as h) (sm_Qc b ba D dA al' r) mc ms (fun q => ba ≤ q)
theorem sm_blind {b ba : Nat} {D : va_G} {dA : Nat → ClassId} {al : Bool} {as : List Value} {h : sm_H} : FrameBlind (sm_Pc b ba D dA al as h) := by
  intro a U g mk q
  obtain ⟨q0, q1, q2, q3⟩ := q
  exact ⟨q0, q1, sm_KK.same (s := U) (U := U.calling g mk a) rfl q2, q3⟩
theorem sm_Rt.of {l : Launch} {M : sm_M} {d mc ms : Nat} {al al' : Bool} {as : List Value} {h : sm_H} {r : Option Value × sm_H} (hpl : plainName M.1.cls = true) (hlen : (sm_ar as).length ≤ M.2.2.1)
    (body : ∀ (p : Program) (e : Env) (s : State) (m : MethodId) (args : Array Value) (below : List Frame) (meth : Method) (c : Code) (b ba : Nat) (D : va_G) (dA : Nat → ClassId), sm_C p (sm_rm d mc ms) s m args meth c M d D dA →
      sm_At p l e (sm_rm d mc ms) s m args below meth c b ba D dA M.2.2.1 al mc ms (MQ below (sm_Qc b ba D dA al' r) args s mc ms (fun q => ba ≤ q)) 0 (sm_e0 as M.2.2.1) [] h) : sm_Rt l M d mc ms al al' as h r := by
  intro b ba D dA
  refine Met.ofW (cc := M.2.1) (maxL := M.2.2.1) (ret := M.2.2.2) hpl rfl ?_
  intro p e s m args below meth c s₁ B hml hv
  obtain ⟨rfl, hP, hKK, hal⟩ := hv
  have hts := atoms_spec (ws := sm_w M) B.pre
  have hC : sm_C p (sm_rm d mc ms) s m (sm_vs b ba as).toArray meth c M d D dA := ⟨B.exec, B.bytes, hml, findClass_of_methodNamed B.named, fun w hw => hts w (List.mem_cons_of_mem _ hw), B.returns, B.notSynchronized, (name_of_methodNamed B.named B.method).1, hKK, Nat.le_refl _, Nat.le_refl _⟩
  have hl := lv_entry (sm_vs b ba as) (n := M.2.2.1) (by rw [sm_ar_len]; exact hlen)
  rw [lg_entry_eq]
  exact body p e s m (sm_vs b ba as).toArray below meth c b ba D dA hC s.heap [] 0 0 _ hP va_S.rf hal ⟨hl.1, hl.2.1, fun q hq => hl.2.2 q (sm_e0_args as M.2.2.1 q hq)⟩ (by show 0 + mc ≤ mc; omega) (by show 0 + ms ≤ ms; omega)
section SMR
variable {M : sm_M} {d pc : Nat} {p : Program} {l : Launch} {e : Env} {R : Room} {s : State} {m : MethodId} {args : Array Value} {below : List Frame} {meth : Method} {c : Code} {b ba : Nat} {D : va_G} {dA : Nat → ClassId} {al al' : Bool} {rc rs mc ms : Nat} {Q : State → Prop} {L st : List Value} {h : sm_H}
theorem jm_retv (hC : sm_C p (sm_rm d mc ms) s m args meth c M d D dA) (hd : decode M.2.1 pc = .ok (.return_, 1)) (hr : M.2.2.2 = none) (hal : al' = true → al = true) :
    sm_At p l e (sm_rm d mc ms) s m args below meth c b ba D dA M.2.2.1 al rc rs (MQ below (sm_Qc b ba D dA al' (none, h)) args s mc ms (fun q => ba ≤ q)) pc L [] h := by
  obtain ⟨c1, c2, c3, c4, c5, c6, c7, c8, c9, c10, c11⟩ := hC
  intro H locs cells slots ls hP hS hH hl h1 h2
  have z1 : cells + rc ≤ mc := h1
  have z2 : slots + rs ≤ ms := h2
  refine W.widen (k := mc) (n := ms) (by omega) (by omega) ?_
  exact W.vret c1 c2 (c6.trans hr) (fun t ht hW => ⟨rfl, by rw [ht]; exact hP, fun q => by rw [ht]; exact hH (hal q), hS.F ht⟩) hS.2.2 hd c7
theorem jm_reti {v : Int32} {ty : FieldType} (hC : sm_C p (sm_rm d mc ms) s m args meth c M d D dA) (hd : decode M.2.1 pc = .ok (.ireturn, 1)) (hr : M.2.2.2 = some ty) (hn : narrow ty (.int v) = .int v) (hal : al' = true → al = true) :
    sm_At p l e (sm_rm d mc ms) s m args below meth c b ba D dA M.2.2.1 al rc rs (MQ below (sm_Qc b ba D dA al' (some (.int v), h)) args s mc ms (fun q => ba ≤ q)) pc L [.int v] h := by
  obtain ⟨c1, c2, c3, c4, c5, c6, c7, c8, c9, c10, c11⟩ := hC
  intro H locs cells slots ls hP hS hH hl h1 h2
  have z1 : cells + rc ≤ mc := h1
  have z2 : slots + rs ≤ ms := h2
  refine W.widen (k := mc) (n := ms) (by omega) (by omega) ?_
  exact W.zret c1 c2 (c6.trans hr) hn (fun t ht hW => ⟨rfl, by rw [ht]; exact hP, fun q => by rw [ht]; exact hH (hal q), hS.F ht⟩) hS.2.2 hd c7
theorem jm_retl {v : Int64} (hC : sm_C p (sm_rm d mc ms) s m args meth c M d D dA) (hd : decode M.2.1 pc = .ok (.lreturn, 1)) (hr : M.2.2.2 = some .long) (hal : al' = true → al = true) :
    sm_At p l e (sm_rm d mc ms) s m args below meth c b ba D dA M.2.2.1 al rc rs (MQ below (sm_Qc b ba D dA al' (some (.long v), h)) args s mc ms (fun q => ba ≤ q)) pc L [.long v] h := by
  obtain ⟨c1, c2, c3, c4, c5, c6, c7, c8, c9, c10, c11⟩ := hC
  intro H locs cells slots ls hP hS hH hl h1 h2
  have z1 : cells + rc ≤ mc := h1
  have z2 : slots + rs ≤ ms := h2
  refine W.widen (k := mc) (n := ms) (by omega) (by omega) ?_
  exact W.lret c1 c2 (c6.trans hr) (fun t ht hW => ⟨rfl, by rw [ht]; exact hP, fun q => by rw [ht]; exact hH (hal q), hS.F ht⟩) hS.2.2 hd c7
theorem sm_goes {H : Heap} {locs : List Loc} {cells slots : Nat} {ls : Array Slot} {st0 rest : List Value} {a : Array Value} {r : Option Value × sm_H} (hr : va_Run p l e R s m args below meth c H locs cells slots mc ms (F0 m pc ls st0) rest (sm_Qc b ba D dA al' r a) (fun q => ba ≤ q)) (hS : va_S (fun q => ba ≤ q) s.heap H locs)
    (kk : ∀ (H1 : Heap) (locs1 : List Loc), va_P D vwCl (sm_ws dA ba r.2) H1 → va_S (fun q => ba ≤ q) s.heap H1 locs1 → (al' = true → H1.size = ba + r.2.1.length) → W p l e R s m args below meth c H1 locs1 (cells + mc) (slots + ms) Q (F0 m (pc + 3) ls ((r.1.map (sm_v b ba)).toList ++ rest))) : W p l e R s m args below meth c H locs cells slots Q (F0 m pc ls st0) := by
  intro T hT X
  obtain ⟨v, st₀, t, T', L, h0, X', hL, e1, e2, ⟨hv, hp, hz, hf1, hf2⟩, st⟩ := hr T hT X
  cases hv
  rw [h0] at hf1 hf2
  obtain ⟨t2, a1, b1⟩ := kk T'.heap (locs ++ L) (by rw [e1]; exact hp)
    ⟨Nat.le_trans hS.1 (by rw [e1]; exact hf1), fun q h1 h2 => by rw [e1, hf2 q (Nat.lt_of_lt_of_le h1 hS.1) h2]; exact hS.2.1 q h1 h2, fun q hq => by
      rcases List.mem_append.mp hq with h | h
      · exact hS.2.2 q h
      · exact hL q h⟩ (by rw [e1]; exact hz) T' rfl X'
  exact ⟨t2, st t2 a1, b1⟩
theorem sm_vs_app (b ba : Nat) (o : Option Value) (st : List Value) : sm_vs b ba (o.toList ++ st) = (o.map (sm_v b ba)).toList ++ sm_vs b ba st := by cases o <;> rfl
theorem sm_vs_rev (b ba : Nat) (As : List Value) (v : Value) (st : List Value) : sm_vs b ba (As.reverse ++ v :: st) = (sm_vs b ba As).reverse ++ sm_v b ba v :: sm_vs b ba st := by
  unfold sm_vs
  rw [List.map_append, List.map_reverse]; rfl
theorem sm_vs_rev0 (b ba : Nat) (As : List Value) (st : List Value) : sm_vs b ba (As.reverse ++ st) = (sm_vs b ba As).reverse ++ sm_vs b ba st := by
  unfold sm_vs
  rw [List.map_append, List.map_reverse]
/-- what a call needs of the callee's name -/
abbrev sm_Cn (Y : sm_M) (n : Nat) : Prop := Y.1.cls ≠ "java/lang/invoke/MethodHandle" ∧ Y.1.cls ≠ "java/lang/invoke/VarHandle" ∧ (parseMethodDescriptor Y.1.desc).map (fun d => d.parameters.length) = some n
abbrev sm_Cw (Y : sm_M) : Prop := Cond.code Y.1 Y.2.1 Y.2.2.1 Y.2.2.2 ∈ sm_G
theorem sm_lenA {b ba : Nat} {As : List Value} {n : Nat} (h : As.length = n) : (sm_vs b ba As).length = n := by unfold sm_vs; rw [List.length_map]; exact h
theorem sm_callB {Y : sm_M} {dY idx n : Nat} (hC : sm_C p R s m args meth c M d D dA) (hn : sm_Cn Y n) (hl : (Cond.methodLink M.1.cls idx Y.1).before args s = true) (w4 : Cond.initialized Y.1.cls ∈ sm_G) (w5 : sm_Cw Y) (hdd : dY + 1 ≤ d) (hml : Y.2.2.1 ≤ 21) :
    CallB R s args M.1.cls idx Y.1 Y.2.1 Y.2.2.1 Y.2.2.2 (sm_w Y) (sm_rm dY mc ms) mc ms n := by
  obtain ⟨c1, c2, c3, c4, c5, c6, c7, c8, c9, c10, c11⟩ := hC
  refine callB_of n c5 (sm_good fun w hw => ?_) rfl rfl rfl (c5 _ w4) hl hn ⟨?_, ?_⟩
  · rcases List.mem_cons.mp hw with h | h
    · rw [h]; exact w5
    · exact h
  · show dY + 1 ≤ R.frames; omega
  · show 8 + (Y.2.2.1 + 11) + 40 * dY ≤ R.locals; omega
theorem sm_callN {Y : sm_M} {dY idx n : Nat} {host : String} (hC : sm_C p R s m args meth c M d D dA) (hn : sm_Cn Y n) (hl : Cond.methodLinkNest M.1.cls idx Y.1 host ∈ sm_N) (w4 : Cond.initialized Y.1.cls ∈ sm_G) (w5 : sm_Cw Y) (hdd : dY + 1 ≤ d) (hml : Y.2.2.1 ≤ 21) :
    va_CN R s args M.1.cls idx Y.1 host Y.2.1 Y.2.2.1 Y.2.2.2 (sm_w Y) (sm_rm dY mc ms) mc ms n := by
  obtain ⟨c1, c2, c3, c4, c5, c6, c7, c8, c9, c10, c11⟩ := hC
  refine va_cnB n c5 (sm_good fun w hw => ?_) rfl rfl rfl (c9.2.1 _ hl) (c5 _ w4) hn ⟨?_, ?_⟩
  · rcases List.mem_cons.mp hw with h | h
    · rw [h]; exact w5
    · exact h
  · show dY + 1 ≤ R.frames; omega
  · show 8 + (Y.2.2.1 + 11) + 40 * dY ≤ R.locals; omega
theorem sm_hW {ls : Array Slot} {st0 : List Value} (h : sm_sum st ≤ 8) : 2 * (F0 m pc ls st0).monitorRoom + ((sm_vs b ba st).map fun v => v.category).sum ≤ 8 := by
  rw [sm_vs_sum]
  unfold sm_sum at h
  show 2 * 0 + _ ≤ 8
  omega
/-- an instance method of an object of class ci -/
theorem jm_callV {Y : sm_M} {dY idx a ci N n : Nat} {C : String} {T : u_T} {ty : Nat → FieldType} {As : List Value} {r : Option Value × sm_H} (hR : sm_Rt l Y dY mc ms al al' (.ref a :: As) h r) (hC : sm_C p R s m args meth c M d D dA) (hc : sm_Cl ci N C T ty) (hY : Y.1.cls = C) (hd : decode M.2.1 pc = .ok (.invokevirtual idx, 3)) (hn : sm_Cn Y n) (hA : As.length = n)
    (w1 : Cond.methodLink M.1.cls idx Y.1 ∈ sm_G) (w2 : Cond.instanceMethod Y.1 ∈ sm_G) (w3 : Cond.selects C Y.1 Y.1 ∈ sm_G) (w4 : Cond.initialized Y.1.cls ∈ sm_G) (w5 : sm_Cw Y) (hdd : dY + 1 ≤ d) (hml : Y.2.2.1 ≤ 21) (hs : sm_is h a ci N = true) (hsum : sm_sum st ≤ 8)
    (k : sm_At p l e R s m args below meth c b ba D dA M.2.2.1 al' rc rs Q (pc + 3) L (r.1.toList ++ st) r.2) : sm_At p l e R s m args below meth c b ba D dA M.2.2.1 al (rc + mc) (rs + ms) Q pc L (As.reverse ++ .ref a :: st) h := by
  have hC' := hC
  obtain ⟨c1, c2, c3, c4, c5, c6, c7, c8, c9, c10, c11⟩ := hC
  obtain ⟨g1, g2, g3, g4, g5⟩ := hc
  have hka := sm_is_get (by omega) hs
  intro H locs cells slots ls hP hS hH hl h1 h2
  have he := sm_ws_get (dA := dA) (ba := ba) hka
  rw [sm_en_o g5] at he
  rw [sm_vs_rev]
  subst hY
  refine sm_goes (va_runV (As := sm_vs b ba As) (rest := sm_vs b ba st) ⟨c1, c2, c3, c4, c5⟩ (hR b ba D dA) ⟨sm_callB hC' hn (c5 _ w1) w4 w5 hdd hml, c5 _ w2, c5 _ w3⟩ ⟨sm_blind, va_recv c9.1 hP g1 he, fun U hU hW => ⟨rfl, by rw [hU]; exact hP, c9.warm hW, fun q => by rw [hU]; exact hH q⟩⟩ rfl (sm_lenA hA) hl.1 rfl (sm_hW hsum) hd ⟨by omega, by omega⟩) hS (fun H1 locs1 q1 q2 q3 => ?_)
  rw [← sm_vs_app]
  exact k H1 locs1 _ _ ls q1 q2 q3 hl (by omega) (by omega)
/-- an instance method of a nest mate -/
theorem jm_callVN {Y : sm_M} {dY idx a ci N n : Nat} {C host : String} {T : u_T} {ty : Nat → FieldType} {As : List Value} {r : Option Value × sm_H} (hR : sm_Rt l Y dY mc ms al al' (.ref a :: As) h r) (hC : sm_C p R s m args meth c M d D dA) (hc : sm_Cl ci N C T ty) (hd : decode M.2.1 pc = .ok (.invokevirtual idx, 3)) (hn : sm_Cn Y n) (hA : As.length = n)
    (w1 : Cond.methodLinkNest M.1.cls idx Y.1 host ∈ sm_N) (w2 : Cond.instanceMethod Y.1 ∈ sm_G) (w3 : Cond.selects C Y.1 Y.1 ∈ sm_G) (w4 : Cond.initialized Y.1.cls ∈ sm_G) (w5 : sm_Cw Y) (hdd : dY + 1 ≤ d) (hml : Y.2.2.1 ≤ 21) (hs : sm_is h a ci N = true) (hsum : sm_sum st ≤ 8)
    (k : sm_At p l e R s m args below meth c b ba D dA M.2.2.1 al' rc rs Q (pc + 3) L (r.1.toList ++ st) r.2) : sm_At p l e R s m args below meth c b ba D dA M.2.2.1 al (rc + mc) (rs + ms) Q pc L (As.reverse ++ .ref a :: st) h := by
  have hC' := hC
  obtain ⟨c1, c2, c3, c4, c5, c6, c7, c8, c9, c10, c11⟩ := hC
  obtain ⟨g1, g2, g3, g4, g5⟩ := hc
  have hka := sm_is_get (by omega) hs
  intro H locs cells slots ls hP hS hH hl h1 h2
  have he := sm_ws_get (dA := dA) (ba := ba) hka
  rw [sm_en_o g5] at he
  rw [sm_vs_rev]
  refine sm_goes (va_runVN (C := C) (As := sm_vs b ba As) (rest := sm_vs b ba st) ⟨c1, c2, c3, c4, c5⟩ (hR b ba D dA) ⟨sm_callN hC' hn w1 w4 w5 hdd hml, c5 _ w2, c5 _ w3⟩ ⟨sm_blind, va_recv c9.1 hP g1 he, fun U hU hW => ⟨rfl, by rw [hU]; exact hP, c9.warm hW, fun q => by rw [hU]; exact hH q⟩⟩ rfl (sm_lenA hA) hl.1 rfl (sm_hW hsum) hd ⟨by omega, by omega⟩) hS (fun H1 locs1 q1 q2 q3 => ?_)
  rw [← sm_vs_app]
  exact k H1 locs1 _ _ ls q1 q2 q3 hl (by omega) (by omega)
theorem jm_callS {Y : sm_M} {dY idx n : Nat} {As : List Value} {r : Option Value × sm_H} (hR : sm_Rt l Y dY mc ms al al' As h r) (hC : sm_C p R s m args meth c M d D dA) (hd : decode M.2.1 pc = .ok (.invokestatic idx, 3)) (hn : sm_Cn Y n) (hA : As.length = n)
    (w1 : Cond.methodLink M.1.cls idx Y.1 ∈ sm_G) (w2 : Cond.static Y.1 ∈ sm_G) (w4 : Cond.initialized Y.1.cls ∈ sm_G) (w5 : sm_Cw Y) (hdd : dY + 1 ≤ d) (hml : Y.2.2.1 ≤ 21) (hsum : sm_sum st ≤ 8)
    (k : sm_At p l e R s m args below meth c b ba D dA M.2.2.1 al' rc rs Q (pc + 3) L (r.1.toList ++ st) r.2) : sm_At p l e R s m args below meth c b ba D dA M.2.2.1 al (rc + mc) (rs + ms) Q pc L (As.reverse ++ st) h := by
  have hC' := hC
  obtain ⟨c1, c2, c3, c4, c5, c6, c7, c8, c9, c10, c11⟩ := hC
  intro H locs cells slots ls hP hS hH hl h1 h2
  rw [sm_vs_rev0]
  refine sm_goes (va_runS (As := sm_vs b ba As) (rest := sm_vs b ba st) ⟨c1, c2, c3, c4, c5⟩ (hR b ba D dA) ⟨sm_callB hC' hn (c5 _ w1) w4 w5 hdd hml, c5 _ w2⟩ ⟨sm_blind, fun U hU hW => ⟨rfl, by rw [hU]; exact hP, c9.warm hW, fun q => by rw [hU]; exact hH q⟩⟩ rfl (sm_lenA hA) hl.1 rfl (sm_hW hsum) hd ⟨by omega, by omega⟩) hS (fun H1 locs1 q1 q2 q3 => ?_)
  rw [← sm_vs_app]
  exact k H1 locs1 _ _ ls q1 q2 q3 hl (by omega) (by omega)
theorem jm_callSN {Y : sm_M} {dY idx n : Nat} {host : String} {As : List Value} {r : Option Value × sm_H} (hR : sm_Rt l Y dY mc ms al al' As h r) (hC : sm_C p R s m args meth c M d D dA) (hd : decode M.2.1 pc = .ok (.invokestatic idx, 3)) (hn : sm_Cn Y n) (hA : As.length = n)
    (w1 : Cond.methodLinkNest M.1.cls idx Y.1 host ∈ sm_N) (w2 : Cond.static Y.1 ∈ sm_G) (w4 : Cond.initialized Y.1.cls ∈ sm_G) (w5 : sm_Cw Y) (hdd : dY + 1 ≤ d) (hml : Y.2.2.1 ≤ 21) (hsum : sm_sum st ≤ 8)
    (k : sm_At p l e R s m args below meth c b ba D dA M.2.2.1 al' rc rs Q (pc + 3) L (r.1.toList ++ st) r.2) : sm_At p l e R s m args below meth c b ba D dA M.2.2.1 al (rc + mc) (rs + ms) Q pc L (As.reverse ++ st) h := by
  have hC' := hC
  obtain ⟨c1, c2, c3, c4, c5, c6, c7, c8, c9, c10, c11⟩ := hC
  intro H locs cells slots ls hP hS hH hl h1 h2
  rw [sm_vs_rev0]
  refine sm_goes (va_runSN (As := sm_vs b ba As) (rest := sm_vs b ba st) ⟨c1, c2, c3, c4, c5⟩ (hR b ba D dA) ⟨sm_callN hC' hn w1 w4 w5 hdd hml, c5 _ w2, trivial⟩ ⟨sm_blind, fun U hU hW => ⟨rfl, by rw [hU]; exact hP, c9.warm hW, fun q => by rw [hU]; exact hH q⟩⟩ rfl (sm_lenA hA) hl.1 rfl (sm_hW hsum) hd ⟨by omega, by omega⟩) hS (fun H1 locs1 q1 q2 q3 => ?_)
  rw [← sm_vs_app]
  exact k H1 locs1 _ _ ls q1 q2 q3 hl (by omega) (by omega)
theorem jm_callI {Y : sm_M} {dY idx a n : Nat} {As : List Value} {r : Option Value × sm_H} (hR : sm_Rt l Y dY mc ms al al' (.ref a :: As) h r) (hC : sm_C p R s m args meth c M d D dA) (hd : decode M.2.1 pc = .ok (.invokespecial idx, 3)) (hn : sm_Cn Y n) (hA : As.length = n) (hret : Y.2.2.2 = none) (hin : Y.1.name = "<init>")
    (w1 : Cond.methodLink M.1.cls idx Y.1 ∈ sm_G) (w2 : Cond.instanceMethod Y.1 ∈ sm_G) (w4 : Cond.initialized Y.1.cls ∈ sm_G) (w5 : sm_Cw Y) (hdd : dY + 1 ≤ d) (hml : Y.2.2.1 ≤ 21) (hsum : sm_sum st ≤ 8)
    (k : sm_At p l e R s m args below meth c b ba D dA M.2.2.1 al' rc rs Q (pc + 3) L (r.1.toList ++ st) r.2) : sm_At p l e R s m args below meth c b ba D dA M.2.2.1 al (rc + mc) (rs + ms) Q pc L (As.reverse ++ .ref a :: st) h := by
  have hC' := hC
  obtain ⟨c1, c2, c3, c4, c5, c6, c7, c8, c9, c10, c11⟩ := hC
  intro H locs cells slots ls hP hS hH hl h1 h2
  rw [sm_vs_rev]
  have hB := sm_callB (mc := mc) (ms := ms) hC' hn (c5 _ w1) w4 w5 hdd hml
  rw [hret] at hB
  refine sm_goes (va_runI (As := sm_vs b ba As) (rest := sm_vs b ba st) ⟨c1, c2, c3, c4, c5⟩ (hR b ba D dA) ⟨hB, hin, c5 _ w2⟩ ⟨sm_blind, fun U hU hW => ⟨rfl, by rw [hU]; exact hP, c9.warm hW, fun q => by rw [hU]; exact hH q⟩⟩ rfl (sm_lenA hA) hl.1 rfl (sm_hW hsum) hd ⟨by omega, by omega⟩) hS (fun H1 locs1 q1 q2 q3 => ?_)
  rw [← sm_vs_app]
  exact k H1 locs1 _ _ ls q1 q2 q3 hl (by omega) (by omega)
theorem jm_callIN {Y : sm_M} {dY idx a n : Nat} {host : String} {As : List Value} {r : Option Value × sm_H} (hR : sm_Rt l Y dY mc ms al al' (.ref a :: As) h r) (hC : sm_C p R s m args meth c M d D dA) (hd : decode M.2.1 pc = .ok (.invokespecial idx, 3)) (hn : sm_Cn Y n) (hA : As.length = n) (hret : Y.2.2.2 = none) (hin : Y.1.name = "<init>")
    (w1 : Cond.methodLinkNest M.1.cls idx Y.1 host ∈ sm_N) (w2 : Cond.instanceMethod Y.1 ∈ sm_G) (w4 : Cond.initialized Y.1.cls ∈ sm_G) (w5 : sm_Cw Y) (hdd : dY + 1 ≤ d) (hml : Y.2.2.1 ≤ 21) (hsum : sm_sum st ≤ 8)
    (k : sm_At p l e R s m args below meth c b ba D dA M.2.2.1 al' rc rs Q (pc + 3) L (r.1.toList ++ st) r.2) : sm_At p l e R s m args below meth c b ba D dA M.2.2.1 al (rc + mc) (rs + ms) Q pc L (As.reverse ++ .ref a :: st) h := by
  have hC' := hC
  obtain ⟨c1, c2, c3, c4, c5, c6, c7, c8, c9, c10, c11⟩ := hC
  intro H locs cells slots ls hP hS hH hl h1 h2
  rw [sm_vs_rev]
  have hB := sm_callN (mc := mc) (ms := ms) hC' hn w1 w4 w5 hdd hml
  rw [hret] at hB
  refine sm_goes (va_runIN (As := sm_vs b ba As) (rest := sm_vs b ba st) ⟨c1, c2, c3, c4, c5⟩ (hR b ba D dA) ⟨hB, hin, c5 _ w2⟩ ⟨sm_blind, fun U hU hW => ⟨rfl, by rw [hU]; exact hP, c9.warm hW, fun q => by rw [hU]; exact hH q⟩⟩ rfl (sm_lenA hA) hl.1 rfl (sm_hW hsum) hd ⟨by omega, by omega⟩) hS (fun H1 locs1 q1 q2 q3 => ?_)
  rw [← sm_vs_app]
  exact k H1 locs1 _ _ ls q1 q2 q3 hl (by omega) (by omega)
/-- Object.<init> -/
theorem jm_obj {idx a : Nat} (hC : sm_C p R s m args meth c M d D dA) (hd : decode M.2.1 pc = .ok (.invokespecial idx, 3)) (hd1 : 1 ≤ d) (w1 : Cond.methodLink M.1.cls idx Lib.objectInit ∈ sm_G) (w2 : Cond.instanceMethod Lib.objectInit ∈ sm_G) (w3 : Cond.code Lib.objectInit ⟨#[0xb1]⟩ 1 none ∈ sm_G) (hsum : sm_sum st ≤ 20)
    (k : sm_At p l e R s m args below meth c b ba D dA M.2.2.1 al rc rs Q (pc + 3) L st h) : sm_At p l e R s m args below meth c b ba D dA M.2.2.1 al rc rs Q pc L (.ref a :: st) h := by
  obtain ⟨c1, c2, c3, c4, c5, c6, c7, c8, c9, c10, c11⟩ := hC
  intro H locs cells slots ls hP hS hH hl h1 h2
  have hsm := sm_vs_sum b ba st
  unfold sm_sum at hsum
  exact W.objInit c1 c2 c4 (c5 _ w1) (c5 _ w2) (c5 _ w3) rfl (by show ls.size = _; rw [hl.1]; exact c3.symm) rfl hd (by omega) (by show 2 * 0 + ((sm_vs b ba st).map fun v => v.category).sum + 12 ≤ _; rw [hsm]; omega) (k H locs cells slots ls hP hS hH hl h1 h2)
/-- a new object -/
theorem jm_new {ci N idx : Nat} {C : String} {T : u_T} {ty : Nat → FieldType} (hC : sm_C p R s m args meth c M d D dA) (hc : sm_Cl ci N C T ty) (hd : decode M.2.1 pc = .ok (.new idx, 3)) (w1 : Cond.classLink M.1.cls idx C ∈ sm_G) (w2 : Cond.instantiable C N ∈ sm_G) (w3 : Cond.initialized C ∈ sm_G) (hz : ∀ j, j < N → defaultValue (ty j) = cond (Nat.beq (sm_fty ci j) 9) .null (.int 0))
    (k : sm_At p l e R s m args below meth c b ba D dA M.2.2.1 true rc rs Q (pc + 3) L (.ref h.1.length :: st) (sm_nw h ci N)) : sm_At p l e R s m args below meth c b ba D dA M.2.2.1 true (rc + 1) (rs + N) Q pc L st h := by
  obtain ⟨c1, c2, c3, c4, c5, c6, c7, c8, c9, c10, c11⟩ := hC
  obtain ⟨g1, g2, g3, g4, g5⟩ := hc
  intro H locs cells slots ls hP hS hH hl h1 h2
  have hsz := hH rfl
  have hKn := c9.1.1 ci _ g1
  refine W.newcK c1 c2 c4 (c5 _ w1) (c5 _ w2) (c5 _ w3) rfl hd (by omega) (by omega) hKn.2.1 hsz fun H1 kC hkC e1 z1 o1 => ?_
  have hk : ∀ (k : Nat) (x : Nat × va_E), (sm_ws dA ba h)[k]? = some x → H1[x.1]? = H[x.1]? := fun k x hx => o1 x.1 (by rw [← hsz]; exact (hP k x hx).lt)
  have hnew : va_at D vwCl (ba + h.1.length, .inr (ci, sm_fl ci ba (sm_nw h ci N) h.1.length N)) H1 := by
    refine ⟨_, g1, (u_born ty c5 g2 hKn hkC e1 g3).to fun j hj => ?_⟩
    show defaultValue (ty j) = vp_V (sm_fl ci ba (sm_nw h ci N) h.1.length N) j
    unfold vp_V
    rw [List.getD_eq_getElem?_getD, sm_fl_get hj, hz j hj]
    have q1 : (sm_nw h ci N).2.1 h.1.length j = 0 := by show sm_z h.2.1 h.1.length 0 h.1.length j = 0; rw [sm_z_row]
    have q2 : (sm_nw h ci N).2.2.2 h.1.length j = none := by show sm_z h.2.2.2 h.1.length none h.1.length j = none; rw [sm_z_row]
    rw [q1, q2]
    cases Nat.beq (sm_fty ci j) 9 <;> rfl
  have hP1 : va_P D vwCl (sm_ws dA ba (sm_nw h ci N)) H1 := by
    rw [← sm_ws_app (h := h) (h' := sm_nw h ci N) (kd := (ci, N)) rfl (sm_en_o g5) (fun j kd hj => sm_en_z hj)]
    refine (hP.kept hk).app fun k x hx => ?_
    have hz : k < 1 := (List.getElem?_eq_some_iff.mp hx).1
    rw [show k = 0 by omega] at hx
    cases hx
    exact hnew
  exact k H1 locs _ _ ls hP1 ⟨Nat.le_trans hS.1 (by omega), fun x a1 a2 => (o1 x (by have := hS.1; omega)).trans (hS.2.1 x a1 a2), hS.2.2⟩ (fun _ => by rw [z1]; show ba + h.1.length + 1 = ba + (h.1 ++ [(ci, N)]).length; rw [List.length_append]; rfl) hl (by omega) (by omega)
/-- a new array of numbers -/
theorem jm_newarr {t i0 N : Nat} {atype : ArrayType} {n : Int32} (hC : sm_C p R s m args meth c M d D dA) (hd : decode M.2.1 pc = .ok (.newarray atype, 2)) (ht : sm_tags[i0]? = some (t, newarray.typeOf atype)) (w1 : Cond.arrayClass (newarray.typeOf atype) ∈ sm_G) (hn : ¬ n < 0) (hN : n.toNatClampNeg = N) (hb8 : N * 8 ≤ 536870912)
    (hprim : ∀ cA : ClassId, va_RA s cA (newarray.typeOf atype) → s.vm.findClass ("[" ++ (newarray.typeOf atype).toString) = some cA) (hcb : componentBytes (newarray.typeOf atype) ≤ 8)
    (hent : ∀ cA : ClassId, ∃ a0 : vp_A, sm_en (fun _ => cA) ba (sm_nw h t N) h.1.length (t, N) = .inl (cA, a0) ∧ (∀ dA : Nat → ClassId, sm_en dA ba (sm_nw h t N) h.1.length (t, N) = .inl (dA t, a0)) ∧ vp_cell cA a0 = arrV cA N (fun _ => defaultValue (newarray.typeOf atype)))
    (k : sm_At p l e R s m args below meth c b ba D dA M.2.2.1 true rc rs Q (pc + 2) L (.ref h.1.length :: st) (sm_nw h t N)) : sm_At p l e R s m args below meth c b ba D dA M.2.2.1 true (rc + 1) (rs + N) Q pc L (.int n :: st) h := by
  obtain ⟨c1, c2, c3, c4, c5, c6, c7, c8, c9, c10, c11⟩ := hC
  intro H locs cells slots ls hP hS hH hl h1 h2
  have hsz := hH rfl
  have hbytes : N * componentBytes (newarray.typeOf atype) ≤ 536870912 := Nat.le_trans (Nat.mul_le_mul_left N hcb) hb8
  refine va_newaK c1 c2 (c5 _ w1) rfl hd rfl hn hN hbytes (by omega) (by omega) hsz fun H1 cA e1 z1 o1 hAr hNm => ?_
  have hdA := hprim _ (c9.1.2 i0 _ (sm_tyK c9 ht)).2
  have hcA : cA = dA t := Option.some.inj (hNm.symm.trans hdA)
  subst hcA
  obtain ⟨a0, -, ha1, ha2⟩ := hent (dA t)
  have hk : ∀ (k : Nat) (x : Nat × va_E), (sm_ws dA ba h)[k]? = some x → H1[x.1]? = H[x.1]? := fun k x hx => o1 x.1 (by rw [← hsz]; exact (hP k x hx).lt)
  have hP1 : va_P D vwCl (sm_ws dA ba (sm_nw h t N)) H1 := by
    rw [← sm_ws_app (h := h) (h' := sm_nw h t N) (kd := (t, N)) rfl (ha1 dA) (fun j kd hj => sm_en_z hj)]
    refine (hP.kept hk).app fun k x hx => ?_
    have hz : k < 1 := (List.getElem?_eq_some_iff.mp hx).1
    rw [show k = 0 by omega] at hx
    cases hx
    show H1[ba + h.1.length]? = some (vp_cell (dA t) a0)
    rw [ha2]; exact e1
  exact k H1 locs _ _ ls hP1 ⟨Nat.le_trans hS.1 (by omega), fun x a1 a2 => (o1 x (by have := hS.1; omega)).trans (hS.2.1 x a1 a2), hS.2.2⟩ (fun _ => by rw [z1]; show ba + h.1.length + 1 = ba + (h.1 ++ [(t, N)]).length; rw [List.length_append]; rfl) hl (by omega) (by omega)
theorem sm_enz_i {ba t N : Nat} {h : sm_H} (h1 : Nat.blt t 100 = false) (h2 : Nat.beq t 101 = false) (h3 : Nat.blt t 150 = true) {ty : FieldType} (hv : defaultValue ty = .int 0) (cA : ClassId) : ∃ a0 : vp_A, sm_en (fun _ => cA) ba (sm_nw h t N) h.1.length (t, N) = .inl (cA, a0) ∧ (∀ dA : Nat → ClassId, sm_en dA ba (sm_nw h t N) h.1.length (t, N) = .inl (dA t, a0)) ∧ vp_cell cA a0 = arrV cA N (fun _ => defaultValue ty) := by
  refine ⟨(N, .inl ((sm_nw h t N).2.1 h.1.length)), sm_en_ia h1 h2 h3, fun dA => sm_en_ia h1 h2 h3, ?_⟩
  rw [hv, vp_cell_i]
  have q : (sm_nw h t N).2.1 h.1.length = fun _ => 0 := by show sm_z h.2.1 h.1.length 0 h.1.length = _; exact sm_z_row
  rw [q]
theorem sm_enz_l {ba N : Nat} {h : sm_H} (cA : ClassId) : ∃ a0 : vp_A, sm_en (fun _ => cA) ba (sm_nw h 101 N) h.1.length (101, N) = .inl (cA, a0) ∧ (∀ dA : Nat → ClassId, sm_en dA ba (sm_nw h 101 N) h.1.length (101, N) = .inl (dA 101, a0)) ∧ vp_cell cA a0 = arrV cA N (fun _ => defaultValue .long) := by
  refine ⟨(N, .inr (.inl ((sm_nw h 101 N).2.2.1 h.1.length))), sm_en_la, fun dA => sm_en_la, ?_⟩
  rw [vp_cell_l]
  have q : (sm_nw h 101 N).2.2.1 h.1.length = fun _ => 0 := by show sm_z h.2.2.1 h.1.length 0 h.1.length = _; exact sm_z_row
  rw [q]; rfl
/-- a new array of objects -/
theorem jm_newobj {t i0 N idx : Nat} {C : String} {n : Int32} (hC : sm_C p R s m args meth c M d D dA) (hd : decode M.2.1 pc = .ok (.anewarray idx, 3)) (ht : sm_tags[i0]? = some (t, .object C)) (t1 : Nat.blt t 100 = false) (t2 : Nat.beq t 101 = false) (t3 : Nat.blt t 150 = false) (w1 : Cond.classLink M.1.cls idx C ∈ sm_G) (w2 : C ∈ sm_ao) (hn : ¬ n < 0) (hN : n.toNatClampNeg = N) (hb8 : N * 8 ≤ 536870912)
    (k : sm_At p l e R s m args below meth c b ba D dA M.2.2.1 true rc rs Q (pc + 3) L (.ref h.1.length :: st) (sm_nw h t N)) : sm_At p l e R s m args below meth c b ba D dA M.2.2.1 true (rc + 1) (rs + N) Q pc L (.int n :: st) h := by
  obtain ⟨c1, c2, c3, c4, c5, c6, c7, c8, c9, c10, c11⟩ := hC
  subst hN
  intro H locs cells slots ls hP hS hH hl h1 h2
  have hsz := hH rfl
  refine W.anew c1 c2 c4 (c5 _ w1) (va_AO.use (c9.2.2.1 _ w2)) rfl hd rfl hn (by omega) (by omega) (by omega) fun cA kA comp f1 f2 f3 f4 => ?_
  generalize hH1 : H.push ({ cls := cA, slots := Array.replicate n.toNatClampNeg .null, vm := .none } : Cell) = H1
  have z1 : H1.size = H.size + 1 := by rw [← hH1, Array.size_push]
  have e1 : H1[H.size]? = some (arrV cA n.toNatClampNeg (fun _ => .null)) := by rw [← hH1, Array.getElem?_push_size, ← arrV_new]
  have o1 : ∀ q, q < H.size → H1[q]? = H[q]? := fun q hq => by rw [← hH1, Array.getElem?_push, if_neg (Nat.ne_of_lt hq)]
  obtain ⟨kA2, comp2, k1, k2, k3, k4⟩ := (c9.1.2 i0 _ (sm_tyK c9 ht)).2
  have hcA : cA = dA t := Option.some.inj (f1.symm.trans k4)
  subst hcA
  have hk : ∀ (k : Nat) (x : Nat × va_E), (sm_ws dA ba h)[k]? = some x → H1[x.1]? = H[x.1]? := fun k x hx => o1 x.1 (hP k x hx).lt
  have hP1 : va_P D vwCl (sm_ws dA ba (sm_nw h t n.toNatClampNeg)) H1 := by
    rw [← sm_ws_app (h := h) (h' := sm_nw h t n.toNatClampNeg) (kd := (t, n.toNatClampNeg)) rfl (sm_en_aa t1 t2 t3) (fun j kd hj => sm_en_z hj)]
    refine (hP.kept hk).app fun k x hx => ?_
    have hz : k < 1 := (List.getElem?_eq_some_iff.mp hx).1
    rw [show k = 0 by omega] at hx
    cases hx
    have q : (sm_nw h t n.toNatClampNeg).2.2.2 h.1.length = fun _ => none := by show sm_z h.2.2.2 h.1.length none h.1.length = _; exact sm_z_row
    rw [q]
    show H1[ba + h.1.length]? = some (vp_cell (dA t) _)
    rw [← hsz, e1, vp_cell_q]; rfl
  have hst : (Value.ref H.size :: sm_vs b ba st) = sm_vs b ba (.ref h.1.length :: st) := by rw [hsz]; rfl
  show W p l e R s m args below meth c H1 locs (cells + 1) (slots + n.toNatClampNeg) Q (F0 m (pc + 3) ls (Value.ref H.size :: sm_vs b ba st))
  rw [hst]
  exact k H1 locs _ _ ls hP1 ⟨Nat.le_trans hS.1 (by omega), fun x a1 a2 => (o1 x (by have := hS.1; omega)).trans (hS.2.1 x a1 a2), hS.2.2⟩ (fun _ => by rw [z1, hsz]; show ba + h.1.length + 1 = ba + (h.1 ++ [(t, n.toNatClampNeg)]).length; rw [List.length_append]; rfl) hl (by omega) (by omega)
end SMR
