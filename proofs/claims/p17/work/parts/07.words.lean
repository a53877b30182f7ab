theorem sm_pl {L ws : List Cond} (hL : ∀ (i : Nat) {w : Cond}, L[i]? = some w → w ∈ tables_1) (ps : List Nat) (hp : ws = ps.filterMap (fun i => L[i]?)) (hg : ws.all goodWord = true) : ∀ w ∈ ws, w ∈ sm_G := by
  intro w hw
  have h1 := List.all_eq_true.mp hg w hw
  rw [hp] at hw
  obtain ⟨i, -, hi⟩ := List.mem_filterMap.mp hw
  exact sm_inm (List.mem_append.mpr (Or.inr (hL i hi))) h1
theorem sm_pn {w : Cond} (h : w ∈ tables_1) (hg : sm_isN w = true) : w ∈ sm_N := List.mem_filter.mpr ⟨List.mem_append.mpr (Or.inr h), hg⟩
/-! words by the pieces of the table -/
theorem sm_t0 {w : Cond} (i : Nat) (h : (k2_sels lw_privs)[i]? = some w) (hg : goodWord w = true) : w ∈ sm_G := sm_inm (List.mem_append.mpr (Or.inl (List.mem_of_getElem? h))) hg
theorem sm_t1 {w : Cond} (i : Nat) (h : tables_1_1[i]? = some w) (hg : goodWord w = true) : w ∈ sm_G := sm_inm (List.mem_append.mpr (Or.inr (show w ∈ tables_1_1 ++ (tables_1_2 ++ (tables_1_3 ++ (tables_1_4 ++ (tables_1_5 ++ (tables_1_6 ++ (tables_1_7 ++ tables_1_8)))))) from List.mem_append.mpr (Or.inl (List.mem_of_getElem? h))))) hg
theorem sm_t2 {w : Cond} (i : Nat) (h : tables_1_2[i]? = some w) (hg : goodWord w = true) : w ∈ sm_G := sm_inm (List.mem_append.mpr (Or.inr (show w ∈ tables_1_1 ++ (tables_1_2 ++ (tables_1_3 ++ (tables_1_4 ++ (tables_1_5 ++ (tables_1_6 ++ (tables_1_7 ++ tables_1_8)))))) from List.mem_append.mpr (Or.inr (List.mem_append.mpr (Or.inl (List.mem_of_getElem? h))))))) hg
theorem sm_t3 {w : Cond} (i : Nat) (h : tables_1_3[i]? = some w) (hg : goodWord w = true) : w ∈ sm_G := sm_inm (List.mem_append.mpr (Or.inr (show w ∈ tables_1_1 ++ (tables_1_2 ++ (tables_1_3 ++ (tables_1_4 ++ (tables_1_5 ++ (tables_1_6 ++ (tables_1_7 ++ tables_1_8)))))) from List.mem_append.mpr (Or.inr (List.mem_append.mpr (Or.inr (List.mem_append.mpr (Or.inl (List.mem_of_getElem? h))))))))) hg
theorem sm_t4 {w : Cond} (i : Nat) (h : tables_1_4[i]? = some w) (hg : goodWord w = true) : w ∈ sm_G := sm_inm (List.mem_append.mpr (Or.inr (show w ∈ tables_1_1 ++ (tables_1_2 ++ (tables_1_3 ++ (tables_1_4 ++ (tables_1_5 ++ (tables_1_6 ++ (tables_1_7 ++ tables_1_8)))))) from List.mem_append.mpr (Or.inr (List.mem_append.mpr (Or.inr (List.mem_append.mpr (Or.inr (List.mem_append.mpr (Or.inl (List.mem_of_getElem? h))))))))))) hg
theorem sm_t5 {w : Cond} (i : Nat) (h : tables_1_5[i]? = some w) (hg : goodWord w = true) : w ∈ sm_G := sm_inm (List.mem_append.mpr (Or.inr (show w ∈ tables_1_1 ++ (tables_1_2 ++ (tables_1_3 ++ (tables_1_4 ++ (tables_1_5 ++ (tables_1_6 ++ (tables_1_7 ++ tables_1_8)))))) from List.mem_append.mpr (Or.inr (List.mem_append.mpr (Or.inr (List.mem_append.mpr (Or.inr (List.mem_append.mpr (Or.inr (List.mem_append.mpr (Or.inl (List.mem_of_getElem? h))))))))))))) hg
theorem sm_t6 {w : Cond} (i : Nat) (h : tables_1_6[i]? = some w) (hg : goodWord w = true) : w ∈ sm_G := sm_inm (List.mem_append.mpr (Or.inr (show w ∈ tables_1_1 ++ (tables_1_2 ++ (tables_1_3 ++ (tables_1_4 ++ (tables_1_5 ++ (tables_1_6 ++ (tables_1_7 ++ tables_1_8)))))) from List.mem_append.mpr (Or.inr (List.mem_append.mpr (Or.inr (List.mem_append.mpr (Or.inr (List.mem_append.mpr (Or.inr (List.mem_append.mpr (Or.inr (List.mem_append.mpr (Or.inl (List.mem_of_getElem? h))))))))))))))) hg
theorem sm_t7 {w : Cond} (i : Nat) (h : tables_1_7[i]? = some w) (hg : goodWord w = true) : w ∈ sm_G := sm_inm (List.mem_append.mpr (Or.inr (show w ∈ tables_1_1 ++ (tables_1_2 ++ (tables_1_3 ++ (tables_1_4 ++ (tables_1_5 ++ (tables_1_6 ++ (tables_1_7 ++ tables_1_8)))))) from List.mem_append.mpr (Or.inr (List.mem_append.mpr (Or.inr (List.mem_append.mpr (Or.inr (List.mem_append.mpr (Or.inr (List.mem_append.mpr (Or.inr (List.mem_append.mpr (Or.inr (List.mem_append.mpr (Or.inl (List.mem_of_getElem? h))))))))))))))))) hg
theorem sm_t8 {w : Cond} (i : Nat) (h : tables_1_8[i]? = some w) (hg : goodWord w = true) : w ∈ sm_G := sm_inm (List.mem_append.mpr (Or.inr (show w ∈ tables_1_1 ++ (tables_1_2 ++ (tables_1_3 ++ (tables_1_4 ++ (tables_1_5 ++ (tables_1_6 ++ (tables_1_7 ++ tables_1_8)))))) from List.mem_append.mpr (Or.inr (List.mem_append.mpr (Or.inr (List.mem_append.mpr (Or.inr (List.mem_append.mpr (Or.inr (List.mem_append.mpr (Or.inr (List.mem_append.mpr (Or.inr (List.mem_append.mpr (Or.inr (List.mem_of_getElem? h))))))))))))))))) hg
theorem sd_ldc_w {M : sm_M} {d pc i : Nat} {v : Int32} (hd : decode M.2.1 pc = .ok (.ldc_w i, 3)) (hw : Cond.constant M.1.cls i v ∈ sm_G) : sm_Sd M d pc (pc + 3) (i_c (.int v)) := by
  intro p l e R s m args below meth c b ba D dA hC al rc rs Q L st L' st' h h' ob hF ho hk
  cases hF
  intro H locs cells slots ls hP hS hH hl h1 h2
  exact lv_ldcw hC.1 hC.2.1 hC.2.2.2.1 (hC.2.2.2.2.1 _ hw) hd (hk H locs cells slots ls hP hS hH hl h1 h2)
/-! the rows of the array of arrays: cell 38, its rows 39 .. 48 -/
theorem sm_row_k : ∀ k, k < 10 → sm_tag (sm_hp (fun _ _ => 0, fun _ _ => 0)) (39 + k) 100 = true ∧ (sm_kd sm_K0 (39 + k)).2 = 10 ∧ sm_R0 38 k = some (39 + k) := by
  have h : (List.range 10).all (fun k => decide (sm_tag (sm_hp (fun _ _ => 0, fun _ _ => 0)) (39 + k) 100 = true ∧ (sm_kd sm_K0 (39 + k)).2 = 10 ∧ sm_R0 38 k = some (39 + k))) = true := by decide +kernel
  intro k hk
  exact of_decide_eq_true (List.all_eq_true.mp h k (List.mem_range.mpr hk))
theorem sm_row_tag {m : sm_S} {i : Int32} (hi : sm_ix i 10) : sm_tag (sm_hp m) (39 + i.toNatClampNeg) 100 = true := (sm_row_k _ hi.2).1
theorem i_aa_row {m : sm_S} {i : Int32} {L r : List Value} (hi : sm_ix i 10) : i_aa 150 L (.int i :: .ref 38 :: r) (sm_hp m) = some (L, .ref (39 + i.toNatClampNeg) :: r, sm_hp m, [(i, 10)]) := by
  have h := (sm_row_k _ hi.2).2.2
  show some (L, sm_rf (sm_R0 38 i.toNatClampNeg) :: r, sm_hp m, [(i, 10)]) = _
  rw [h]; rfl
theorem i_ia_row {m : sm_S} {i j : Int32} {L r : List Value} (hi : sm_ix i 10) : i_ia 100 L (.int j :: .ref (39 + i.toNatClampNeg) :: r) (sm_hp m) = some (L, .int (m.1 (39 + i.toNatClampNeg) j.toNatClampNeg) :: r, sm_hp m, [(j, 10)]) := by
  have h := (sm_row_k _ hi.2).2.1
  show cond (sm_tag (sm_hp m) (39 + i.toNatClampNeg) 100) (some (L, .int (m.1 (39 + i.toNatClampNeg) j.toNatClampNeg) :: r, sm_hp m, [(j, (sm_kd sm_K0 (39 + i.toNatClampNeg)).2)])) none = _
  rw [sm_row_tag hi, h]; rfl
theorem i_is_row {m : sm_S} {i j x : Int32} {L r : List Value} (hi : sm_ix i 10) : i_is_a 100 (fun x => x) L (.int x :: .int j :: .ref (39 + i.toNatClampNeg) :: r) (sm_hp m) = some (L, r, sm_hp (sm_w1 m (39 + i.toNatClampNeg) j.toNatClampNeg x), [(j, 10)]) := by
  have h := (sm_row_k _ hi.2).2.1
  show cond (sm_tag (sm_hp m) (39 + i.toNatClampNeg) 100) (some (L, r, sm_hp (sm_w1 m (39 + i.toNatClampNeg) j.toNatClampNeg x), [(j, (sm_kd sm_K0 (39 + i.toNatClampNeg)).2)])) none = _
  rw [sm_row_tag hi, h]; rfl
theorem sm_run1 {f : sm_F} {L st : List Value} {h : sm_H} {r : List Value × List Value × sm_H × sm_O} (hf : f L st h = some r) : sm_run [f] L st h = some (r.1, r.2.1, r.2.2.1, r.2.2.2 ++ []) := by
  show (match f L st h with | none => none | some r => _) = _
  rw [hf]; rfl
theorem uX11 : ∀ w ∈ u_ws RX11 TX11 13, w ∈ sm_G := sm_pl (fun i _ h => lw_t2 i h) [123, 125, 127, 129, 131, 133, 135, 137, 139, 141, 143, 145, 147] (by decide +kernel) (by decide +kernel)
theorem kX11 : sm_Cl 11 13 RX11 TX11 tyX11 := ⟨rfl, uX11, tyX11_ok, nmX11, by decide⟩
theorem wfX11_10 : Cond.fieldLink RX11 10 "NoHedgeTwice" "text" "LNoHedgeTwice$Text;" ∈ sm_G := sm_t2 110 rfl rfl
theorem uX8 : ∀ w ∈ u_ws RX8 TX8 6, w ∈ sm_G := sm_pl (fun i _ h => lw_t1 i h) [42, 44, 46, 48, 50, 52] (by decide +kernel) (by decide +kernel)
theorem kX8 : sm_Cl 8 6 RX8 TX8 tyX8 := ⟨rfl, uX8, tyX8_ok, nmX8, by decide⟩
theorem wfX8_15 : Cond.fieldLink RX8 15 "NoHedgeTwice$Text" "length" "I" ∈ sm_G := sm_t1 36 rfl rfl
theorem wfX8_9 : Cond.fieldLink RX8 9 "NoHedgeTwice$Text" "signs" "[C" ∈ sm_G := sm_t1 34 rfl rfl
theorem wmX11_90 : Cond.methodLink RX11 90 yX8_append ∈ sm_G := sm_t2 154 rfl rfl
theorem wiX8_append : Cond.instanceMethod yX8_append ∈ sm_G := sm_t2 155 rfl rfl
theorem wvX8_append : Cond.selects RX8 yX8_append yX8_append ∈ sm_G := sm_t2 156 rfl rfl
theorem wIX8 : Cond.initialized RX8 ∈ sm_G := sm_t1 2 rfl rfl
theorem wcX8_append : Cond.code mX8_append.1 mX8_append.2.1 mX8_append.2.2.1 mX8_append.2.2.2 ∈ sm_G := sm_t2 157 rfl rfl
theorem cvX11_90 {M : sm_M} (hM : M.1.cls = RX11) : sm_cV M mX8_append 90 1 8 6 RX8 TX8 tyX8 := by
  refine ⟨kX8, rfl, ⟨by decide, by decide, by decide +kernel⟩, ?_, wiX8_append, wvX8_append, wIX8, wcX8_append⟩
  rw [hM]; exact wmX11_90
theorem wfX11_94 : Cond.fieldLink RX11 94 "NoHedgeTwice$Text" "length" "I" ∈ sm_G := sm_t1 37 rfl rfl
theorem wfX11_19 : Cond.fieldLink RX11 19 "NoHedgeTwice" "ground" "LNoHedgeTwice$Land;" ∈ sm_G := sm_t2 111 rfl rfl
theorem wfX8_19 : Cond.fieldLink RX8 19 "NoHedgeTwice$Text" "at" "I" ∈ sm_G := sm_t1 38 rfl rfl
theorem wmX8_31 : Cond.methodLink RX8 31 Lib.Math.min.name ∈ sm_G := sm_t2 170 rfl rfl
theorem wsM_min : Cond.static Lib.Math.min.name ∈ sm_G := sm_t2 171 rfl rfl
theorem wI_Math : Cond.initialized "java/lang/Math" ∈ sm_G := sm_t1 9 rfl rfl
theorem wcM_min : Cond.code Lib.Math.min.name Lib.Math.min.code 2 (some .int) ∈ sm_G := sm_t2 172 rfl rfl
theorem wfX8_22 : Cond.fieldLink RX8 22 "NoHedgeTwice$Text" "limit" "I" ∈ sm_G := sm_t1 39 rfl rfl
theorem uX2 : ∀ w ∈ u_ws RX2 TX2 14, w ∈ sm_G := sm_pl (fun i _ h => lw_t1 i h) [118, 120, 122, 124, 126, 128, 130, 132, 134, 136, 138, 140, 142, 144] (by decide +kernel) (by decide +kernel)
theorem kX2 : sm_Cl 2 14 RX2 TX2 tyX2 := ⟨rfl, uX2, tyX2_ok, nmX2, by decide⟩
theorem wfX8_37 : Cond.fieldLink RX8 37 "NoHedgeTwice$Land" "corners" "I" ∈ sm_G := sm_t1 64 rfl rfl
theorem wfX8_25 : Cond.fieldLink RX8 25 "NoHedgeTwice$Text" "corners" "I" ∈ sm_G := sm_t1 40 rfl rfl
theorem wfX8_40 : Cond.fieldLink RX8 40 "NoHedgeTwice$Land" "hedges" "I" ∈ sm_G := sm_t1 71 rfl rfl
theorem wfX8_28 : Cond.fieldLink RX8 28 "NoHedgeTwice$Text" "hedges" "I" ∈ sm_G := sm_t1 41 rfl rfl
theorem wmX8_49 : Cond.methodLink RX8 49 yX8_signAt ∈ sm_G := sm_t2 177 rfl rfl
theorem wiX8_signAt : Cond.instanceMethod yX8_signAt ∈ sm_G := sm_t2 179 rfl rfl
theorem wvX8_signAt : Cond.selects RX8 yX8_signAt yX8_signAt ∈ sm_G := sm_t0 1 rfl rfl
theorem wcX8_signAt : Cond.code mX8_signAt.1 mX8_signAt.2.1 mX8_signAt.2.2.1 mX8_signAt.2.2.2 ∈ sm_G := sm_t2 180 rfl rfl
theorem cvX8_49 {M : sm_M} (hM : M.1.cls = RX8) : sm_cV M mX8_signAt 49 0 8 6 RX8 TX8 tyX8 := by
  refine ⟨kX8, rfl, ⟨by decide, by decide, by decide +kernel⟩, ?_, wiX8_signAt, wvX8_signAt, wIX8, wcX8_signAt⟩
  rw [hM]; exact wmX8_49
theorem wmX8_70 : Cond.methodLink RX8 70 yX8_cornerLetter ∈ sm_G := sm_t2 193 rfl rfl
theorem wiX8_cornerLetter : Cond.instanceMethod yX8_cornerLetter ∈ sm_G := sm_t2 195 rfl rfl
theorem wvX8_cornerLetter : Cond.selects RX8 yX8_cornerLetter yX8_cornerLetter ∈ sm_G := sm_t0 5 rfl rfl
theorem wcX8_cornerLetter : Cond.code mX8_cornerLetter.1 mX8_cornerLetter.2.1 mX8_cornerLetter.2.2.1 mX8_cornerLetter.2.2.2 ∈ sm_G := sm_t2 196 rfl rfl
theorem cvX8_70 {M : sm_M} (hM : M.1.cls = RX8) : sm_cV M mX8_cornerLetter 70 1 8 6 RX8 TX8 tyX8 := by
  refine ⟨kX8, rfl, ⟨by decide, by decide, by decide +kernel⟩, ?_, wiX8_cornerLetter, wvX8_cornerLetter, wIX8, wcX8_cornerLetter⟩
  rw [hM]; exact wmX8_70
theorem wmX8_59 : Cond.methodLink RX8 59 yX8_digit ∈ sm_G := sm_t2 185 rfl rfl
theorem wiX8_digit : Cond.instanceMethod yX8_digit ∈ sm_G := sm_t2 187 rfl rfl
theorem wvX8_digit : Cond.selects RX8 yX8_digit yX8_digit ∈ sm_G := sm_t0 3 rfl rfl
theorem wcX8_digit : Cond.code mX8_digit.1 mX8_digit.2.1 mX8_digit.2.2.1 mX8_digit.2.2.2 ∈ sm_G := sm_t2 188 rfl rfl
theorem cvX8_59 {M : sm_M} (hM : M.1.cls = RX8) : sm_cV M mX8_digit 59 1 8 6 RX8 TX8 tyX8 := by
  refine ⟨kX8, rfl, ⟨by decide, by decide, by decide +kernel⟩, ?_, wiX8_digit, wvX8_digit, wIX8, wcX8_digit⟩
  rw [hM]; exact wmX8_59
theorem wmX8_73 : Cond.methodLink RX8 73 yX8_longDigits ∈ sm_G := sm_t2 197 rfl rfl
theorem wiX8_longDigits : Cond.instanceMethod yX8_longDigits ∈ sm_G := sm_t2 199 rfl rfl
theorem wvX8_longDigits : Cond.selects RX8 yX8_longDigits yX8_longDigits ∈ sm_G := sm_t0 6 rfl rfl
theorem wcX8_longDigits : Cond.code mX8_longDigits.1 mX8_longDigits.2.1 mX8_longDigits.2.2.1 mX8_longDigits.2.2.2 ∈ sm_G := sm_t2 200 rfl rfl
theorem cvX8_73 {M : sm_M} (hM : M.1.cls = RX8) : sm_cV M mX8_longDigits 73 0 8 6 RX8 TX8 tyX8 := by
  refine ⟨kX8, rfl, ⟨by decide, by decide, by decide +kernel⟩, ?_, wiX8_longDigits, wvX8_longDigits, wIX8, wcX8_longDigits⟩
  rw [hM]; exact wmX8_73
theorem wmX8_45 : Cond.methodLink RX8 45 yX8_skip ∈ sm_G := sm_t2 201 rfl rfl
theorem wiX8_skip : Cond.instanceMethod yX8_skip ∈ sm_G := sm_t2 203 rfl rfl
theorem wvX8_skip : Cond.selects RX8 yX8_skip yX8_skip ∈ sm_G := sm_t0 7 rfl rfl
theorem wcX8_skip : Cond.code mX8_skip.1 mX8_skip.2.1 mX8_skip.2.2.1 mX8_skip.2.2.2 ∈ sm_G := sm_t2 204 rfl rfl
theorem cvX8_45 {M : sm_M} (hM : M.1.cls = RX8) : sm_cV M mX8_skip 45 1 8 6 RX8 TX8 tyX8 := by
  refine ⟨kX8, rfl, ⟨by decide, by decide, by decide +kernel⟩, ?_, wiX8_skip, wvX8_skip, wIX8, wcX8_skip⟩
  rw [hM]; exact wmX8_45
theorem wmX8_76 : Cond.methodLink RX8 76 yX8_marked ∈ sm_G := sm_t2 205 rfl rfl
theorem wiX8_marked : Cond.instanceMethod yX8_marked ∈ sm_G := sm_t2 207 rfl rfl
theorem wvX8_marked : Cond.selects RX8 yX8_marked yX8_marked ∈ sm_G := sm_t0 8 rfl rfl
theorem wcX8_marked : Cond.code mX8_marked.1 mX8_marked.2.1 mX8_marked.2.2.1 mX8_marked.2.2.2 ∈ sm_G := sm_t2 208 rfl rfl
theorem cvX8_76 {M : sm_M} (hM : M.1.cls = RX8) : sm_cV M mX8_marked 76 2 8 6 RX8 TX8 tyX8 := by
  refine ⟨kX8, rfl, ⟨by decide, by decide, by decide +kernel⟩, ?_, wiX8_marked, wvX8_marked, wIX8, wcX8_marked⟩
  rw [hM]; exact wmX8_76
theorem wfX8_80 : Cond.fieldLink RX8 80 "NoHedgeTwice$Land" "first" "[I" ∈ sm_G := sm_t1 88 rfl rfl
theorem wfX8_83 : Cond.fieldLink RX8 83 "NoHedgeTwice$Land" "second" "[I" ∈ sm_G := sm_t1 93 rfl rfl
theorem wfX8_86 : Cond.fieldLink RX8 86 "NoHedgeTwice$Land" "minutes" "[I" ∈ sm_G := sm_t1 96 rfl rfl
theorem wfX8_89 : Cond.fieldLink RX8 89 "NoHedgeTwice$Land" "left" "[I" ∈ sm_G := sm_t1 100 rfl rfl
theorem wfX8_92 : Cond.fieldLink RX8 92 "NoHedgeTwice$Land" "right" "[I" ∈ sm_G := sm_t1 104 rfl rfl
theorem wfX8_95 : Cond.fieldLink RX8 95 "NoHedgeTwice$Land" "worth" "[I" ∈ sm_G := sm_t1 107 rfl rfl
theorem wfX8_98 : Cond.fieldLink RX8 98 "NoHedgeTwice$Land" "wind" "[I" ∈ sm_G := sm_t1 112 rfl rfl
theorem wfX8_101 : Cond.fieldLink RX8 101 "NoHedgeTwice$Land" "gate" "[Z" ∈ sm_G := sm_t1 116 rfl rfl
theorem wmX8_56 : Cond.methodLink RX8 56 yX8_readHedge ∈ sm_G := sm_t2 189 rfl rfl
theorem wiX8_readHedge : Cond.instanceMethod yX8_readHedge ∈ sm_G := sm_t2 191 rfl rfl
theorem wvX8_readHedge : Cond.selects RX8 yX8_readHedge yX8_readHedge ∈ sm_G := sm_t0 4 rfl rfl
theorem wcX8_readHedge : Cond.code mX8_readHedge.1 mX8_readHedge.2.1 mX8_readHedge.2.2.1 mX8_readHedge.2.2.2 ∈ sm_G := sm_t2 192 rfl rfl
theorem cvX8_56 {M : sm_M} (hM : M.1.cls = RX8) : sm_cV M mX8_readHedge 56 1 8 6 RX8 TX8 tyX8 := by
  refine ⟨kX8, rfl, ⟨by decide, by decide, by decide +kernel⟩, ?_, wiX8_readHedge, wvX8_readHedge, wIX8, wcX8_readHedge⟩
  rw [hM]; exact wmX8_56
theorem wfX8_63 : Cond.fieldLink RX8 63 "NoHedgeTwice$Land" "x" "[I" ∈ sm_G := sm_t1 81 rfl rfl
theorem wfX8_67 : Cond.fieldLink RX8 67 "NoHedgeTwice$Land" "y" "[I" ∈ sm_G := sm_t1 83 rfl rfl
theorem wmX8_53 : Cond.methodLink RX8 53 yX8_readCorner ∈ sm_G := sm_t2 181 rfl rfl
theorem wiX8_readCorner : Cond.instanceMethod yX8_readCorner ∈ sm_G := sm_t2 183 rfl rfl
theorem wvX8_readCorner : Cond.selects RX8 yX8_readCorner yX8_readCorner ∈ sm_G := sm_t0 2 rfl rfl
theorem wcX8_readCorner : Cond.code mX8_readCorner.1 mX8_readCorner.2.1 mX8_readCorner.2.2.1 mX8_readCorner.2.2.2 ∈ sm_G := sm_t2 184 rfl rfl
theorem cvX8_53 {M : sm_M} (hM : M.1.cls = RX8) : sm_cV M mX8_readCorner 53 1 8 6 RX8 TX8 tyX8 := by
  refine ⟨kX8, rfl, ⟨by decide, by decide, by decide +kernel⟩, ?_, wiX8_readCorner, wvX8_readCorner, wIX8, wcX8_readCorner⟩
  rw [hM]; exact wmX8_53
theorem wmX8_41 : Cond.methodLink RX8 41 yX8_readLine ∈ sm_G := sm_t2 173 rfl rfl
theorem wiX8_readLine : Cond.instanceMethod yX8_readLine ∈ sm_G := sm_t2 175 rfl rfl
theorem wvX8_readLine : Cond.selects RX8 yX8_readLine yX8_readLine ∈ sm_G := sm_t0 0 rfl rfl
theorem wcX8_readLine : Cond.code mX8_readLine.1 mX8_readLine.2.1 mX8_readLine.2.2.1 mX8_readLine.2.2.2 ∈ sm_G := sm_t2 176 rfl rfl
theorem cvX8_41 {M : sm_M} (hM : M.1.cls = RX8) : sm_cV M mX8_readLine 41 1 8 6 RX8 TX8 tyX8 := by
  refine ⟨kX8, rfl, ⟨by decide, by decide, by decide +kernel⟩, ?_, wiX8_readLine, wvX8_readLine, wIX8, wcX8_readLine⟩
  rw [hM]; exact wmX8_41
theorem wmX11_98 : Cond.methodLink RX11 98 yX8_readLines ∈ sm_G := sm_t2 166 rfl rfl
theorem wiX8_readLines : Cond.instanceMethod yX8_readLines ∈ sm_G := sm_t2 167 rfl rfl
theorem wvX8_readLines : Cond.selects RX8 yX8_readLines yX8_readLines ∈ sm_G := sm_t2 168 rfl rfl
theorem wcX8_readLines : Cond.code mX8_readLines.1 mX8_readLines.2.1 mX8_readLines.2.2.1 mX8_readLines.2.2.2 ∈ sm_G := sm_t2 169 rfl rfl
theorem cvX11_98 {M : sm_M} (hM : M.1.cls = RX11) : sm_cV M mX8_readLines 98 1 8 6 RX8 TX8 tyX8 := by
  refine ⟨kX8, rfl, ⟨by decide, by decide, by decide +kernel⟩, ?_, wiX8_readLines, wvX8_readLines, wIX8, wcX8_readLines⟩
  rw [hM]; exact wmX11_98
theorem wfX11_43 : Cond.fieldLink RX11 43 "NoHedgeTwice" "steps" "LNoHedgeTwice$Steps;" ∈ sm_G := sm_t2 115 rfl rfl
theorem uX7 : ∀ w ∈ u_ws RX7 TX7 6, w ∈ sm_G := sm_pl (fun i _ h => lw_t1 i h) [198, 200, 202, 204, 206, 208] (by decide +kernel) (by decide +kernel)
theorem kX7 : sm_Cl 7 6 RX7 TX7 tyX7 := ⟨rfl, uX7, tyX7_ok, nmX7, by decide⟩
theorem wfX11_102 : Cond.fieldLink RX11 102 "NoHedgeTwice$Steps" "count" "I" ∈ sm_G := sm_t1 192 rfl rfl
theorem wfX2_15 : Cond.fieldLink RX2 15 "NoHedgeTwice$Land" "hedges" "I" ∈ sm_G := sm_t1 67 rfl rfl
theorem wmX11_105 : Cond.methodLink RX11 105 yX2_hasHedge ∈ sm_G := sm_t2 232 rfl rfl
theorem wiX2_hasHedge : Cond.instanceMethod yX2_hasHedge ∈ sm_G := sm_t2 233 rfl rfl
theorem wvX2_hasHedge : Cond.selects RX2 yX2_hasHedge yX2_hasHedge ∈ sm_G := sm_t2 234 rfl rfl
theorem wIX2 : Cond.initialized RX2 ∈ sm_G := sm_t1 3 rfl rfl
theorem wcX2_hasHedge : Cond.code mX2_hasHedge.1 mX2_hasHedge.2.1 mX2_hasHedge.2.2.1 mX2_hasHedge.2.2.2 ∈ sm_G := sm_t2 235 rfl rfl
theorem cvX11_105 {M : sm_M} (hM : M.1.cls = RX11) : sm_cV M mX2_hasHedge 105 1 2 14 RX2 TX2 tyX2 := by
  refine ⟨kX2, rfl, ⟨by decide, by decide, by decide +kernel⟩, ?_, wiX2_hasHedge, wvX2_hasHedge, wIX2, wcX2_hasHedge⟩
  rw [hM]; exact wmX11_105
theorem wfX11_115 : Cond.fieldLink RX11 115 "NoHedgeTwice$Land" "first" "[I" ∈ sm_G := sm_t1 86 rfl rfl
theorem wfX11_119 : Cond.fieldLink RX11 119 "NoHedgeTwice$Land" "second" "[I" ∈ sm_G := sm_t1 91 rfl rfl
theorem wfX11_122 : Cond.fieldLink RX11 122 "NoHedgeTwice$Land" "minutes" "[I" ∈ sm_G := sm_t1 95 rfl rfl
theorem wfX11_125 : Cond.fieldLink RX11 125 "NoHedgeTwice$Land" "left" "[I" ∈ sm_G := sm_t1 99 rfl rfl
theorem wfX11_128 : Cond.fieldLink RX11 128 "NoHedgeTwice$Land" "right" "[I" ∈ sm_G := sm_t1 103 rfl rfl
theorem wfX11_131 : Cond.fieldLink RX11 131 "NoHedgeTwice$Land" "worth" "[I" ∈ sm_G := sm_t1 106 rfl rfl
theorem wfX11_134 : Cond.fieldLink RX11 134 "NoHedgeTwice$Land" "wind" "[I" ∈ sm_G := sm_t1 111 rfl rfl
theorem wfX11_137 : Cond.fieldLink RX11 137 "NoHedgeTwice$Land" "gate" "[Z" ∈ sm_G := sm_t1 115 rfl rfl
theorem wfX11_33 : Cond.fieldLink RX11 33 "NoHedgeTwice" "walker" "LNoHedgeTwice$Spot;" ∈ sm_G := sm_t2 113 rfl rfl
theorem uX6 : ∀ w ∈ u_ws RX6 TX6 3, w ∈ sm_G := sm_pl (fun i _ h => lw_t1 i h) [178, 180, 182] (by decide +kernel) (by decide +kernel)
theorem kX6 : sm_Cl 6 3 RX6 TX6 tyX6 := ⟨rfl, uX6, tyX6_ok, nmX6, by decide⟩
theorem wfX6_18 : Cond.fieldLink RX6 18 "NoHedgeTwice$Spot" "lastDay" "[I" ∈ sm_G := sm_t1 176 rfl rfl
theorem wfX6_15 : Cond.fieldLink RX6 15 "NoHedgeTwice$Spot" "time" "I" ∈ sm_G := sm_t1 173 rfl rfl
theorem wmX6_22 : Cond.methodLink RX6 22 yX6_day ∈ sm_G := sm_t3 29 rfl rfl
theorem wiX6_day : Cond.instanceMethod yX6_day ∈ sm_G := sm_t3 30 rfl rfl
theorem wvX6_day : Cond.selects RX6 yX6_day yX6_day ∈ sm_G := sm_t3 31 rfl rfl
theorem wIX6 : Cond.initialized RX6 ∈ sm_G := sm_t1 5 rfl rfl
theorem wcX6_day : Cond.code mX6_day.1 mX6_day.2.1 mX6_day.2.2.1 mX6_day.2.2.2 ∈ sm_G := sm_t3 32 rfl rfl
theorem cvX6_22 {M : sm_M} (hM : M.1.cls = RX6) : sm_cV M mX6_day 22 0 6 3 RX6 TX6 tyX6 := by
  refine ⟨kX6, rfl, ⟨by decide, by decide, by decide +kernel⟩, ?_, wiX6_day, wvX6_day, wIX6, wcX6_day⟩
  rw [hM]; exact wmX6_22
theorem wfX6_26 : Cond.fieldLink RX6 26 "NoHedgeTwice$Land" "nights" "I" ∈ sm_G := sm_t1 75 rfl rfl
theorem wmX11_140 : Cond.methodLink RX11 140 yX6_isFresh ∈ sm_G := sm_t5 109 rfl rfl
theorem wiX6_isFresh : Cond.instanceMethod yX6_isFresh ∈ sm_G := sm_t3 26 rfl rfl
theorem wvX6_isFresh : Cond.selects RX6 yX6_isFresh yX6_isFresh ∈ sm_G := sm_t3 27 rfl rfl
theorem wcX6_isFresh : Cond.code mX6_isFresh.1 mX6_isFresh.2.1 mX6_isFresh.2.2.1 mX6_isFresh.2.2.2 ∈ sm_G := sm_t3 28 rfl rfl
theorem cvX11_140 {M : sm_M} (hM : M.1.cls = RX11) : sm_cV M mX6_isFresh 140 2 6 3 RX6 TX6 tyX6 := by
  refine ⟨kX6, rfl, ⟨by decide, by decide, by decide +kernel⟩, ?_, wiX6_isFresh, wvX6_isFresh, wIX6, wcX6_isFresh⟩
  rw [hM]; exact wmX11_140
theorem wfX2_9 : Cond.fieldLink RX2 9 "NoHedgeTwice$Land" "corners" "I" ∈ sm_G := sm_t1 62 rfl rfl
theorem wmX11_144 : Cond.methodLink RX11 144 yX2_hasCorner ∈ sm_G := sm_t2 213 rfl rfl
theorem wiX2_hasCorner : Cond.instanceMethod yX2_hasCorner ∈ sm_G := sm_t2 214 rfl rfl
theorem wvX2_hasCorner : Cond.selects RX2 yX2_hasCorner yX2_hasCorner ∈ sm_G := sm_t2 215 rfl rfl
theorem wcX2_hasCorner : Cond.code mX2_hasCorner.1 mX2_hasCorner.2.1 mX2_hasCorner.2.2.1 mX2_hasCorner.2.2.2 ∈ sm_G := sm_t2 216 rfl rfl
theorem cvX11_144 {M : sm_M} (hM : M.1.cls = RX11) : sm_cV M mX2_hasCorner 144 1 2 14 RX2 TX2 tyX2 := by
  refine ⟨kX2, rfl, ⟨by decide, by decide, by decide +kernel⟩, ?_, wiX2_hasCorner, wvX2_hasCorner, wIX2, wcX2_hasCorner⟩
  rw [hM]; exact wmX11_144
theorem wfX2_24 : Cond.fieldLink RX2 24 "NoHedgeTwice$Land" "x" "[I" ∈ sm_G := sm_t1 80 rfl rfl
theorem wmX2_56 : Cond.methodLink RX2 56 Lib.Math.abs.name ∈ sm_G := sm_t2 221 rfl rfl
theorem wsM_abs : Cond.static Lib.Math.abs.name ∈ sm_G := sm_t2 222 rfl rfl
theorem wcM_abs : Cond.code Lib.Math.abs.name Lib.Math.abs.code 1 (some .int) ∈ sm_G := sm_t2 223 rfl rfl
theorem wfX2_28 : Cond.fieldLink RX2 28 "NoHedgeTwice$Land" "y" "[I" ∈ sm_G := sm_t1 82 rfl rfl
theorem wmX11_147 : Cond.methodLink RX11 147 yX2_grassBetween ∈ sm_G := sm_t2 217 rfl rfl
theorem wiX2_grassBetween : Cond.instanceMethod yX2_grassBetween ∈ sm_G := sm_t2 218 rfl rfl
theorem wvX2_grassBetween : Cond.selects RX2 yX2_grassBetween yX2_grassBetween ∈ sm_G := sm_t2 219 rfl rfl
theorem wcX2_grassBetween : Cond.code mX2_grassBetween.1 mX2_grassBetween.2.1 mX2_grassBetween.2.2.1 mX2_grassBetween.2.2.2 ∈ sm_G := sm_t2 220 rfl rfl
theorem cvX11_147 {M : sm_M} (hM : M.1.cls = RX11) : sm_cV M mX2_grassBetween 147 2 2 14 RX2 TX2 tyX2 := by
  refine ⟨kX2, rfl, ⟨by decide, by decide, by decide +kernel⟩, ?_, wiX2_grassBetween, wvX2_grassBetween, wIX2, wcX2_grassBetween⟩
  rw [hM]; exact wmX11_147
theorem wmX11_151 : Cond.methodLink RX11 151 yX11_setDigit ∈ sm_G := sm_t2 228 rfl rfl
theorem wiX11_setDigit : Cond.instanceMethod yX11_setDigit ∈ sm_G := sm_t2 230 rfl rfl
theorem wvX11_setDigit : Cond.selects RX11 yX11_setDigit yX11_setDigit ∈ sm_G := sm_t0 9 rfl rfl
theorem wIX11 : Cond.initialized RX11 ∈ sm_G := sm_t1 1 rfl rfl
theorem wcX11_setDigit : Cond.code mX11_setDigit.1 mX11_setDigit.2.1 mX11_setDigit.2.2.1 mX11_setDigit.2.2.2 ∈ sm_G := sm_t2 231 rfl rfl
theorem cvX11_151 {M : sm_M} (hM : M.1.cls = RX11) : sm_cV M mX11_setDigit 151 3 11 13 RX11 TX11 tyX11 := by
  refine ⟨kX11, rfl, ⟨by decide, by decide, by decide +kernel⟩, ?_, wiX11_setDigit, wvX11_setDigit, wIX11, wcX11_setDigit⟩
  rw [hM]; exact wmX11_151
theorem wfX11_162 : Cond.fieldLink RX11 162 "NoHedgeTwice$Land" "nights" "I" ∈ sm_G := sm_t1 76 rfl rfl
theorem wmX11_155 : Cond.methodLink RX11 155 yX11_setNights ∈ sm_G := sm_t2 236 rfl rfl
theorem wiX11_setNights : Cond.instanceMethod yX11_setNights ∈ sm_G := sm_t2 238 rfl rfl
theorem wvX11_setNights : Cond.selects RX11 yX11_setNights yX11_setNights ∈ sm_G := sm_t0 10 rfl rfl
theorem wcX11_setNights : Cond.code mX11_setNights.1 mX11_setNights.2.1 mX11_setNights.2.2.1 mX11_setNights.2.2.2 ∈ sm_G := sm_t2 239 rfl rfl
theorem cvX11_155 {M : sm_M} (hM : M.1.cls = RX11) : sm_cV M mX11_setNights 155 1 11 13 RX11 TX11 tyX11 := by
  refine ⟨kX11, rfl, ⟨by decide, by decide, by decide +kernel⟩, ?_, wiX11_setNights, wvX11_setNights, wIX11, wcX11_setNights⟩
  rw [hM]; exact wmX11_155
theorem wfX11_165 : Cond.fieldLink RX11 165 "NoHedgeTwice$Land" "frost" "I" ∈ sm_G := sm_t1 79 rfl rfl
theorem wmX11_159 : Cond.methodLink RX11 159 yX11_setFrost ∈ sm_G := sm_t3 0 rfl rfl
theorem wiX11_setFrost : Cond.instanceMethod yX11_setFrost ∈ sm_G := sm_t3 2 rfl rfl
theorem wvX11_setFrost : Cond.selects RX11 yX11_setFrost yX11_setFrost ∈ sm_G := sm_t0 11 rfl rfl
theorem wcX11_setFrost : Cond.code mX11_setFrost.1 mX11_setFrost.2.1 mX11_setFrost.2.2.1 mX11_setFrost.2.2.2 ∈ sm_G := sm_t3 3 rfl rfl
theorem cvX11_159 {M : sm_M} (hM : M.1.cls = RX11) : sm_cV M mX11_setFrost 159 1 11 13 RX11 TX11 tyX11 := by
  refine ⟨kX11, rfl, ⟨by decide, by decide, by decide +kernel⟩, ?_, wiX11_setFrost, wvX11_setFrost, wIX11, wcX11_setFrost⟩
  rw [hM]; exact wmX11_159
theorem wfX11_168 : Cond.fieldLink RX11 168 "NoHedgeTwice$Land" "hedges" "I" ∈ sm_G := sm_t1 73 rfl rfl
theorem wmX11_174 : Cond.methodLink RX11 174 Lib.Math.min.name ∈ sm_G := sm_t3 11 rfl rfl
theorem wmX11_179 : Cond.methodLink RX11 179 Lib.Math.max.name ∈ sm_G := sm_t3 12 rfl rfl
theorem wsM_max : Cond.static Lib.Math.max.name ∈ sm_G := sm_t1 226 rfl rfl
theorem wcM_max : Cond.code Lib.Math.max.name Lib.Math.max.code 2 (some .int) ∈ sm_G := sm_t1 227 rfl rfl
theorem wmX11_171 : Cond.methodLink RX11 171 yX11_sheetEntry ∈ sm_G := sm_t3 8 rfl rfl
theorem wsX11_sheetEntry : Cond.static yX11_sheetEntry ∈ sm_G := sm_t3 9 rfl rfl
theorem wcX11_sheetEntry : Cond.code mX11_sheetEntry.1 mX11_sheetEntry.2.1 mX11_sheetEntry.2.2.1 mX11_sheetEntry.2.2.2 ∈ sm_G := sm_t3 10 rfl rfl
theorem csX11_171 {M : sm_M} (hM : M.1.cls = RX11) : sm_cS M mX11_sheetEntry 171 2 := by
  refine ⟨⟨by decide, by decide, by decide +kernel⟩, ?_, wsX11_sheetEntry, wIX11, wcX11_sheetEntry⟩
  rw [hM]; exact wmX11_171
theorem wfX6_9 : Cond.fieldLink RX6 9 "NoHedgeTwice$Spot" "corner" "I" ∈ sm_G := sm_t1 170 rfl rfl
theorem wfX2_31 : Cond.fieldLink RX2 31 "NoHedgeTwice$Land" "first" "[I" ∈ sm_G := sm_t1 84 rfl rfl
theorem wfX2_34 : Cond.fieldLink RX2 34 "NoHedgeTwice$Land" "second" "[I" ∈ sm_G := sm_t1 89 rfl rfl
theorem wmX6_31 : Cond.methodLink RX6 31 yX2_touches ∈ sm_G := sm_t3 21 rfl rfl
theorem wiX2_touches : Cond.instanceMethod yX2_touches ∈ sm_G := sm_t3 22 rfl rfl
theorem wvX2_touches : Cond.selects RX2 yX2_touches yX2_touches ∈ sm_G := sm_t3 23 rfl rfl
theorem wcX2_touches : Cond.code mX2_touches.1 mX2_touches.2.1 mX2_touches.2.2.1 mX2_touches.2.2.2 ∈ sm_G := sm_t3 24 rfl rfl
theorem cvX6_31 {M : sm_M} (hM : M.1.cls = RX6) : sm_cV M mX2_touches 31 2 2 14 RX2 TX2 tyX2 := by
  refine ⟨kX2, rfl, ⟨by decide, by decide, by decide +kernel⟩, ?_, wiX2_touches, wvX2_touches, wIX2, wcX2_touches⟩
  rw [hM]; exact wmX6_31
theorem wmX6_35 : Cond.methodLink RX6 35 yX6_isFresh ∈ sm_G := sm_t3 25 rfl rfl
theorem cvX6_35 {M : sm_M} (hM : M.1.cls = RX6) : sm_cV M mX6_isFresh 35 2 6 3 RX6 TX6 tyX6 := by
  refine ⟨kX6, rfl, ⟨by decide, by decide, by decide +kernel⟩, ?_, wiX6_isFresh, wvX6_isFresh, wIX6, wcX6_isFresh⟩
  rw [hM]; exact wmX6_35
theorem wfX6_39 : Cond.fieldLink RX6 39 "NoHedgeTwice$Land" "gate" "[Z" ∈ sm_G := sm_t1 117 rfl rfl
theorem wfX2_37 : Cond.fieldLink RX2 37 "NoHedgeTwice$Land" "minutes" "[I" ∈ sm_G := sm_t1 94 rfl rfl
theorem wfX2_49 : Cond.fieldLink RX2 49 "NoHedgeTwice$Land" "wind" "[I" ∈ sm_G := sm_t1 109 rfl rfl
theorem wmX6_47 : Cond.methodLink RX6 47 yX2_minutesFrom ∈ sm_G := sm_t3 37 rfl rfl
theorem wiX2_minutesFrom : Cond.instanceMethod yX2_minutesFrom ∈ sm_G := sm_t3 38 rfl rfl
theorem wvX2_minutesFrom : Cond.selects RX2 yX2_minutesFrom yX2_minutesFrom ∈ sm_G := sm_t3 39 rfl rfl
theorem wcX2_minutesFrom : Cond.code mX2_minutesFrom.1 mX2_minutesFrom.2.1 mX2_minutesFrom.2.2.1 mX2_minutesFrom.2.2.2 ∈ sm_G := sm_t3 40 rfl rfl
theorem cvX6_47 {M : sm_M} (hM : M.1.cls = RX6) : sm_cV M mX2_minutesFrom 47 2 2 14 RX2 TX2 tyX2 := by
  refine ⟨kX2, rfl, ⟨by decide, by decide, by decide +kernel⟩, ?_, wiX2_minutesFrom, wvX2_minutesFrom, wIX2, wcX2_minutesFrom⟩
  rw [hM]; exact wmX6_47
theorem wfX6_51 : Cond.fieldLink RX6 51 "NoHedgeTwice$Land" "frost" "I" ∈ sm_G := sm_t1 78 rfl rfl
theorem wmX6_43 : Cond.methodLink RX6 43 yX6_isLight ∈ sm_G := sm_t3 33 rfl rfl
theorem wiX6_isLight : Cond.instanceMethod yX6_isLight ∈ sm_G := sm_t3 34 rfl rfl
theorem wvX6_isLight : Cond.selects RX6 yX6_isLight yX6_isLight ∈ sm_G := sm_t3 35 rfl rfl
theorem wcX6_isLight : Cond.code mX6_isLight.1 mX6_isLight.2.1 mX6_isLight.2.2.1 mX6_isLight.2.2.2 ∈ sm_G := sm_t3 36 rfl rfl
theorem cvX6_43 {M : sm_M} (hM : M.1.cls = RX6) : sm_cV M mX6_isLight 43 0 6 3 RX6 TX6 tyX6 := by
  refine ⟨kX6, rfl, ⟨by decide, by decide, by decide +kernel⟩, ?_, wiX6_isLight, wvX6_isLight, wIX6, wcX6_isLight⟩
  rw [hM]; exact wmX6_43
theorem wmX11_182 : Cond.methodLink RX11 182 yX6_whyNot ∈ sm_G := sm_t3 17 rfl rfl
theorem wiX6_whyNot : Cond.instanceMethod yX6_whyNot ∈ sm_G := sm_t3 18 rfl rfl
theorem wvX6_whyNot : Cond.selects RX6 yX6_whyNot yX6_whyNot ∈ sm_G := sm_t3 19 rfl rfl
theorem wcX6_whyNot : Cond.code mX6_whyNot.1 mX6_whyNot.2.1 mX6_whyNot.2.2.1 mX6_whyNot.2.2.2 ∈ sm_G := sm_t3 20 rfl rfl
theorem cvX11_182 {M : sm_M} (hM : M.1.cls = RX11) : sm_cV M mX6_whyNot 182 2 6 3 RX6 TX6 tyX6 := by
  refine ⟨kX6, rfl, ⟨by decide, by decide, by decide +kernel⟩, ?_, wiX6_whyNot, wvX6_whyNot, wIX6, wcX6_whyNot⟩
  rw [hM]; exact wmX11_182
theorem wfX7_18 : Cond.fieldLink RX7 18 "NoHedgeTwice$Steps" "hedge" "[I" ∈ sm_G := sm_t1 194 rfl rfl
theorem wfX7_15 : Cond.fieldLink RX7 15 "NoHedgeTwice$Steps" "top" "I" ∈ sm_G := sm_t1 193 rfl rfl
theorem wfX7_22 : Cond.fieldLink RX7 22 "NoHedgeTwice$Steps" "corner" "[I" ∈ sm_G := sm_t1 195 rfl rfl
theorem wfX7_31 : Cond.fieldLink RX7 31 "NoHedgeTwice$Spot" "corner" "I" ∈ sm_G := sm_t1 171 rfl rfl
theorem wfX7_25 : Cond.fieldLink RX7 25 "NoHedgeTwice$Steps" "time" "[I" ∈ sm_G := sm_t1 196 rfl rfl
theorem wfX7_35 : Cond.fieldLink RX7 35 "NoHedgeTwice$Spot" "time" "I" ∈ sm_G := sm_t1 174 rfl rfl
theorem wfX7_28 : Cond.fieldLink RX7 28 "NoHedgeTwice$Steps" "lastDay" "[I" ∈ sm_G := sm_t1 197 rfl rfl
theorem wfX7_37 : Cond.fieldLink RX7 37 "NoHedgeTwice$Spot" "lastDay" "[I" ∈ sm_G := sm_t1 177 rfl rfl
theorem wfX7_9 : Cond.fieldLink RX7 9 "NoHedgeTwice$Steps" "count" "I" ∈ sm_G := sm_t1 191 rfl rfl
theorem wmX7_38 : Cond.methodLink RX7 38 Lib.Math.min.name ∈ sm_G := sm_t3 45 rfl rfl
theorem wmX11_186 : Cond.methodLink RX11 186 yX7_remember ∈ sm_G := sm_t3 41 rfl rfl
theorem wiX7_remember : Cond.instanceMethod yX7_remember ∈ sm_G := sm_t3 42 rfl rfl
theorem wvX7_remember : Cond.selects RX7 yX7_remember yX7_remember ∈ sm_G := sm_t3 43 rfl rfl
theorem wIX7 : Cond.initialized RX7 ∈ sm_G := sm_t1 6 rfl rfl
theorem wcX7_remember : Cond.code mX7_remember.1 mX7_remember.2.1 mX7_remember.2.2.1 mX7_remember.2.2.2 ∈ sm_G := sm_t3 44 rfl rfl
theorem cvX11_186 {M : sm_M} (hM : M.1.cls = RX11) : sm_cV M mX7_remember 186 2 7 6 RX7 TX7 tyX7 := by
  refine ⟨kX7, rfl, ⟨by decide, by decide, by decide +kernel⟩, ?_, wiX7_remember, wvX7_remember, wIX7, wcX7_remember⟩
  rw [hM]; exact wmX11_186
theorem wmX6_54 : Cond.methodLink RX6 54 yX2_otherEnd ∈ sm_G := sm_t3 50 rfl rfl
theorem wiX2_otherEnd : Cond.instanceMethod yX2_otherEnd ∈ sm_G := sm_t3 51 rfl rfl
theorem wvX2_otherEnd : Cond.selects RX2 yX2_otherEnd yX2_otherEnd ∈ sm_G := sm_t3 52 rfl rfl
theorem wcX2_otherEnd : Cond.code mX2_otherEnd.1 mX2_otherEnd.2.1 mX2_otherEnd.2.2.1 mX2_otherEnd.2.2.2 ∈ sm_G := sm_t3 53 rfl rfl
theorem cvX6_54 {M : sm_M} (hM : M.1.cls = RX6) : sm_cV M mX2_otherEnd 54 2 2 14 RX2 TX2 tyX2 := by
  refine ⟨kX2, rfl, ⟨by decide, by decide, by decide +kernel⟩, ?_, wiX2_otherEnd, wvX2_otherEnd, wIX2, wcX2_otherEnd⟩
  rw [hM]; exact wmX6_54
theorem wmX11_190 : Cond.methodLink RX11 190 yX6_step ∈ sm_G := sm_t3 46 rfl rfl
theorem wiX6_step : Cond.instanceMethod yX6_step ∈ sm_G := sm_t3 47 rfl rfl
theorem wvX6_step : Cond.selects RX6 yX6_step yX6_step ∈ sm_G := sm_t3 48 rfl rfl
theorem wcX6_step : Cond.code mX6_step.1 mX6_step.2.1 mX6_step.2.2.1 mX6_step.2.2.2 ∈ sm_G := sm_t3 49 rfl rfl
theorem cvX11_190 {M : sm_M} (hM : M.1.cls = RX11) : sm_cV M mX6_step 190 2 6 3 RX6 TX6 tyX6 := by
  refine ⟨kX6, rfl, ⟨by decide, by decide, by decide +kernel⟩, ?_, wiX6_step, wvX6_step, wIX6, wcX6_step⟩
  rw [hM]; exact wmX11_190
theorem wfX11_193 : Cond.fieldLink RX11 193 "NoHedgeTwice$Spot" "time" "I" ∈ sm_G := sm_t1 175 rfl rfl
theorem wmX11_196 : Cond.methodLink RX11 196 yX7_takeBack ∈ sm_G := sm_t3 62 rfl rfl
theorem wiX7_takeBack : Cond.instanceMethod yX7_takeBack ∈ sm_G := sm_t3 63 rfl rfl
theorem wvX7_takeBack : Cond.selects RX7 yX7_takeBack yX7_takeBack ∈ sm_G := sm_t3 64 rfl rfl
theorem wcX7_takeBack : Cond.code mX7_takeBack.1 mX7_takeBack.2.1 mX7_takeBack.2.2.1 mX7_takeBack.2.2.2 ∈ sm_G := sm_t3 65 rfl rfl
theorem cvX11_196 {M : sm_M} (hM : M.1.cls = RX11) : sm_cV M mX7_takeBack 196 1 7 6 RX7 TX7 tyX7 := by
  refine ⟨kX7, rfl, ⟨by decide, by decide, by decide +kernel⟩, ?_, wiX7_takeBack, wvX7_takeBack, wIX7, wcX7_takeBack⟩
  rw [hM]; exact wmX11_196
theorem wmX11_200 : Cond.methodLink RX11 200 yX6_beginAt ∈ sm_G := sm_t3 70 rfl rfl
theorem wiX6_beginAt : Cond.instanceMethod yX6_beginAt ∈ sm_G := sm_t3 71 rfl rfl
theorem wvX6_beginAt : Cond.selects RX6 yX6_beginAt yX6_beginAt ∈ sm_G := sm_t3 72 rfl rfl
theorem wcX6_beginAt : Cond.code mX6_beginAt.1 mX6_beginAt.2.1 mX6_beginAt.2.2.1 mX6_beginAt.2.2.2 ∈ sm_G := sm_t3 73 rfl rfl
theorem cvX11_200 {M : sm_M} (hM : M.1.cls = RX11) : sm_cV M mX6_beginAt 200 1 6 3 RX6 TX6 tyX6 := by
  refine ⟨kX6, rfl, ⟨by decide, by decide, by decide +kernel⟩, ?_, wiX6_beginAt, wvX6_beginAt, wIX6, wcX6_beginAt⟩
  rw [hM]; exact wmX11_200
theorem wfX11_204 : Cond.fieldLink RX11 204 "NoHedgeTwice$Text" "signs" "[C" ∈ sm_G := sm_t1 35 rfl rfl
theorem wmX9_32 : Cond.methodLink RX9 32 yX2_hasCorner ∈ sm_G := sm_t3 85 rfl rfl
theorem cvX9_32 {M : sm_M} (hM : M.1.cls = RX9) : sm_cV M mX2_hasCorner 32 1 2 14 RX2 TX2 tyX2 := by
  refine ⟨kX2, rfl, ⟨by decide, by decide, by decide +kernel⟩, ?_, wiX2_hasCorner, wvX2_hasCorner, wIX2, wcX2_hasCorner⟩
  rw [hM]; exact wmX9_32
theorem wmX9_38 : Cond.methodLink RX9 38 yX2_hasHedge ∈ sm_G := sm_t3 86 rfl rfl
theorem cvX9_38 {M : sm_M} (hM : M.1.cls = RX9) : sm_cV M mX2_hasHedge 38 1 2 14 RX2 TX2 tyX2 := by
  refine ⟨kX2, rfl, ⟨by decide, by decide, by decide +kernel⟩, ?_, wiX2_hasHedge, wvX2_hasHedge, wIX2, wcX2_hasHedge⟩
  rw [hM]; exact wmX9_38
theorem wmX9_41 : Cond.methodLink RX9 41 yX2_touches ∈ sm_G := sm_t3 87 rfl rfl
theorem cvX9_41 {M : sm_M} (hM : M.1.cls = RX9) : sm_cV M mX2_touches 41 2 2 14 RX2 TX2 tyX2 := by
  refine ⟨kX2, rfl, ⟨by decide, by decide, by decide +kernel⟩, ?_, wiX2_touches, wvX2_touches, wIX2, wcX2_touches⟩
  rw [hM]; exact wmX9_41
theorem wmX9_45 : Cond.methodLink RX9 45 yX2_otherEnd ∈ sm_G := sm_t3 88 rfl rfl
theorem cvX9_45 {M : sm_M} (hM : M.1.cls = RX9) : sm_cV M mX2_otherEnd 45 2 2 14 RX2 TX2 tyX2 := by
  refine ⟨kX2, rfl, ⟨by decide, by decide, by decide +kernel⟩, ?_, wiX2_otherEnd, wvX2_otherEnd, wIX2, wcX2_otherEnd⟩
  rw [hM]; exact wmX9_45
theorem wmX11_208 : Cond.methodLink RX11 208 yX9_firstBad ∈ sm_G := sm_t3 82 rfl rfl
theorem wsX9_firstBad : Cond.static yX9_firstBad ∈ sm_G := sm_t3 83 rfl rfl
theorem wIX9 : Cond.initialized RX9 ∈ sm_G := sm_t1 13 rfl rfl
theorem wcX9_firstBad : Cond.code mX9_firstBad.1 mX9_firstBad.2.1 mX9_firstBad.2.2.1 mX9_firstBad.2.2.2 ∈ sm_G := sm_t3 84 rfl rfl
theorem csX11_208 {M : sm_M} (hM : M.1.cls = RX11) : sm_cS M mX9_firstBad 208 3 := by
  refine ⟨⟨by decide, by decide, by decide +kernel⟩, ?_, wsX9_firstBad, wIX9, wcX9_firstBad⟩
  rw [hM]; exact wmX11_208
theorem wfX11_49 : Cond.fieldLink RX11 49 "NoHedgeTwice" "tours" "[LNoHedgeTwice$Tour;" ∈ sm_G := sm_t2 116 rfl rfl
theorem uX9 : ∀ w ∈ u_ws RX9 TX9 6, w ∈ sm_G := sm_pl (fun i _ h => lw_t2 i h) [97, 99, 101, 103, 105, 107] (by decide +kernel) (by decide +kernel)
theorem kX9 : sm_Cl 9 6 RX9 TX9 tyX9 := ⟨rfl, uX9, tyX9_ok, nmX9, by decide⟩
theorem wfX9_9 : Cond.fieldLink RX9 9 "NoHedgeTwice$Tour" "laid" "Z" ∈ sm_G := sm_t2 86 rfl rfl
theorem wfX9_15 : Cond.fieldLink RX9 15 "NoHedgeTwice$Tour" "start" "I" ∈ sm_G := sm_t2 88 rfl rfl
theorem wfX9_19 : Cond.fieldLink RX9 19 "NoHedgeTwice$Tour" "steps" "I" ∈ sm_G := sm_t2 90 rfl rfl
theorem wfX9_22 : Cond.fieldLink RX9 22 "NoHedgeTwice$Tour" "hedges" "[I" ∈ sm_G := sm_t2 92 rfl rfl
theorem wmX11_212 : Cond.methodLink RX11 212 yX9_lay ∈ sm_G := sm_t3 89 rfl rfl
theorem wiX9_lay : Cond.instanceMethod yX9_lay ∈ sm_G := sm_t3 90 rfl rfl
theorem wvX9_lay : Cond.selects RX9 yX9_lay yX9_lay ∈ sm_G := sm_t3 91 rfl rfl
theorem wcX9_lay : Cond.code mX9_lay.1 mX9_lay.2.1 mX9_lay.2.2.1 mX9_lay.2.2.2 ∈ sm_G := sm_t3 92 rfl rfl
theorem cvX11_212 {M : sm_M} (hM : M.1.cls = RX11) : sm_cV M mX9_lay 212 2 9 6 RX9 TX9 tyX9 := by
  refine ⟨kX9, rfl, ⟨by decide, by decide, by decide +kernel⟩, ?_, wiX9_lay, wvX9_lay, wIX9, wcX9_lay⟩
  rw [hM]; exact wmX11_212
theorem wfX9_26 : Cond.fieldLink RX9 26 "NoHedgeTwice$Tour" "corner" "[I" ∈ sm_G := sm_t2 94 rfl rfl
theorem wfX9_29 : Cond.fieldLink RX9 29 "NoHedgeTwice$Tour" "minute" "[I" ∈ sm_G := sm_t2 96 rfl rfl
theorem wmX9_49 : Cond.methodLink RX9 49 yX2_minutesFrom ∈ sm_G := sm_t3 97 rfl rfl
theorem cvX9_49 {M : sm_M} (hM : M.1.cls = RX9) : sm_cV M mX2_minutesFrom 49 2 2 14 RX2 TX2 tyX2 := by
  refine ⟨kX2, rfl, ⟨by decide, by decide, by decide +kernel⟩, ?_, wiX2_minutesFrom, wvX2_minutesFrom, wIX2, wcX2_minutesFrom⟩
  rw [hM]; exact wmX9_49
theorem wmX11_216 : Cond.methodLink RX11 216 yX9_schedule ∈ sm_G := sm_t3 93 rfl rfl
theorem wiX9_schedule : Cond.instanceMethod yX9_schedule ∈ sm_G := sm_t3 94 rfl rfl
theorem wvX9_schedule : Cond.selects RX9 yX9_schedule yX9_schedule ∈ sm_G := sm_t3 95 rfl rfl
theorem wcX9_schedule : Cond.code mX9_schedule.1 mX9_schedule.2.1 mX9_schedule.2.2.1 mX9_schedule.2.2.2 ∈ sm_G := sm_t3 96 rfl rfl
theorem cvX11_216 {M : sm_M} (hM : M.1.cls = RX11) : sm_cV M mX9_schedule 216 1 9 6 RX9 TX9 tyX9 := by
  refine ⟨kX9, rfl, ⟨by decide, by decide, by decide +kernel⟩, ?_, wiX9_schedule, wvX9_schedule, wIX9, wcX9_schedule⟩
  rw [hM]; exact wmX11_216
theorem wfX11_26 : Cond.fieldLink RX11 26 "NoHedgeTwice" "told" "LNoHedgeTwice$Row;" ∈ sm_G := sm_t2 112 rfl rfl
theorem wfX11_219 : Cond.fieldLink RX11 219 "NoHedgeTwice$Tour" "corner" "[I" ∈ sm_G := sm_t2 95 rfl rfl
theorem wfX11_222 : Cond.fieldLink RX11 222 "NoHedgeTwice$Tour" "steps" "I" ∈ sm_G := sm_t2 91 rfl rfl
theorem uX5 : ∀ w ∈ u_ws RX5 TX5 2, w ∈ sm_G := sm_pl (fun i _ h => lw_t1 i h) [159, 161] (by decide +kernel) (by decide +kernel)
theorem kX5 : sm_Cl 5 2 RX5 TX5 tyX5 := ⟨rfl, uX5, tyX5_ok, nmX5, by decide⟩
theorem wfX5_15 : Cond.fieldLink RX5 15 "NoHedgeTwice$Row" "count" "I" ∈ sm_G := sm_t1 157 rfl rfl
theorem wmX5_19 : Cond.methodLink RX5 19 yX5_clear ∈ sm_G := sm_t3 102 rfl rfl
theorem wiX5_clear : Cond.instanceMethod yX5_clear ∈ sm_G := sm_t3 103 rfl rfl
theorem wvX5_clear : Cond.selects RX5 yX5_clear yX5_clear ∈ sm_G := sm_t3 104 rfl rfl
theorem wIX5 : Cond.initialized RX5 ∈ sm_G := sm_t1 4 rfl rfl
theorem wcX5_clear : Cond.code mX5_clear.1 mX5_clear.2.1 mX5_clear.2.2.1 mX5_clear.2.2.2 ∈ sm_G := sm_t3 105 rfl rfl
theorem cvX5_19 {M : sm_M} (hM : M.1.cls = RX5) : sm_cV M mX5_clear 19 0 5 2 RX5 TX5 tyX5 := by
  refine ⟨kX5, rfl, ⟨by decide, by decide, by decide +kernel⟩, ?_, wiX5_clear, wvX5_clear, wIX5, wcX5_clear⟩
  rw [hM]; exact wmX5_19
theorem wfX5_9 : Cond.fieldLink RX5 9 "NoHedgeTwice$Row" "numbers" "[I" ∈ sm_G := sm_t1 155 rfl rfl
theorem wmX5_22 : Cond.methodLink RX5 22 yX5_add ∈ sm_G := sm_t3 106 rfl rfl
theorem wiX5_add : Cond.instanceMethod yX5_add ∈ sm_G := sm_t3 107 rfl rfl
theorem wvX5_add : Cond.selects RX5 yX5_add yX5_add ∈ sm_G := sm_t3 108 rfl rfl
theorem wcX5_add : Cond.code mX5_add.1 mX5_add.2.1 mX5_add.2.2.1 mX5_add.2.2.2 ∈ sm_G := sm_t3 109 rfl rfl
theorem cvX5_22 {M : sm_M} (hM : M.1.cls = RX5) : sm_cV M mX5_add 22 1 5 2 RX5 TX5 tyX5 := by
  refine ⟨kX5, rfl, ⟨by decide, by decide, by decide +kernel⟩, ?_, wiX5_add, wvX5_add, wIX5, wcX5_add⟩
  rw [hM]; exact wmX5_22
theorem wmX11_224 : Cond.methodLink RX11 224 yX5_tell ∈ sm_G := sm_t3 98 rfl rfl
theorem wiX5_tell : Cond.instanceMethod yX5_tell ∈ sm_G := sm_t3 99 rfl rfl
theorem wvX5_tell : Cond.selects RX5 yX5_tell yX5_tell ∈ sm_G := sm_t3 100 rfl rfl
theorem wcX5_tell : Cond.code mX5_tell.1 mX5_tell.2.1 mX5_tell.2.2.1 mX5_tell.2.2.2 ∈ sm_G := sm_t3 101 rfl rfl
theorem cvX11_224 {M : sm_M} (hM : M.1.cls = RX11) : sm_cV M mX5_tell 224 1 5 2 RX5 TX5 tyX5 := by
  refine ⟨kX5, rfl, ⟨by decide, by decide, by decide +kernel⟩, ?_, wiX5_tell, wvX5_tell, wIX5, wcX5_tell⟩
  rw [hM]; exact wmX11_224
theorem wmX11_227 : Cond.methodLink RX11 227 yX9_bits ∈ sm_G := sm_t3 110 rfl rfl
theorem wiX9_bits : Cond.instanceMethod yX9_bits ∈ sm_G := sm_t3 111 rfl rfl
theorem wvX9_bits : Cond.selects RX9 yX9_bits yX9_bits ∈ sm_G := sm_t3 112 rfl rfl
theorem wcX9_bits : Cond.code mX9_bits.1 mX9_bits.2.1 mX9_bits.2.2.1 mX9_bits.2.2.2 ∈ sm_G := sm_t3 113 rfl rfl
theorem cvX11_227 {M : sm_M} (hM : M.1.cls = RX11) : sm_cV M mX9_bits 227 0 9 6 RX9 TX9 tyX9 := by
  refine ⟨kX9, rfl, ⟨by decide, by decide, by decide +kernel⟩, ?_, wiX9_bits, wvX9_bits, wIX9, wcX9_bits⟩
  rw [hM]; exact wmX11_227
theorem wmX11_231 : Cond.methodLink RX11 231 yX5_add ∈ sm_G := sm_t3 114 rfl rfl
theorem cvX11_231 {M : sm_M} (hM : M.1.cls = RX11) : sm_cV M mX5_add 231 1 5 2 RX5 TX5 tyX5 := by
  refine ⟨kX5, rfl, ⟨by decide, by decide, by decide +kernel⟩, ?_, wiX5_add, wvX5_add, wIX5, wcX5_add⟩
  rw [hM]; exact wmX11_231
theorem wfX11_234 : Cond.fieldLink RX11 234 "NoHedgeTwice$Tour" "laid" "Z" ∈ sm_G := sm_t2 87 rfl rfl
theorem wfX11_37 : Cond.fieldLink RX11 37 "NoHedgeTwice" "scout" "LNoHedgeTwice$Spot;" ∈ sm_G := sm_t2 114 rfl rfl
theorem wmX11_238 : Cond.methodLink RX11 238 yX6_copyFrom ∈ sm_G := sm_t3 119 rfl rfl
theorem wiX6_copyFrom : Cond.instanceMethod yX6_copyFrom ∈ sm_G := sm_t3 120 rfl rfl
theorem wvX6_copyFrom : Cond.selects RX6 yX6_copyFrom yX6_copyFrom ∈ sm_G := sm_t3 121 rfl rfl
theorem wcX6_copyFrom : Cond.code mX6_copyFrom.1 mX6_copyFrom.2.1 mX6_copyFrom.2.2.1 mX6_copyFrom.2.2.2 ∈ sm_G := sm_t3 122 rfl rfl
theorem cvX11_238 {M : sm_M} (hM : M.1.cls = RX11) : sm_cV M mX6_copyFrom 238 1 6 3 RX6 TX6 tyX6 := by
  refine ⟨kX6, rfl, ⟨by decide, by decide, by decide +kernel⟩, ?_, wiX6_copyFrom, wvX6_copyFrom, wIX6, wcX6_copyFrom⟩
  rw [hM]; exact wmX11_238
theorem wfX11_242 : Cond.fieldLink RX11 242 "NoHedgeTwice$Tour" "start" "I" ∈ sm_G := sm_t2 89 rfl rfl
theorem wfX11_245 : Cond.fieldLink RX11 245 "NoHedgeTwice$Spot" "corner" "I" ∈ sm_G := sm_t1 172 rfl rfl
theorem wfX11_247 : Cond.fieldLink RX11 247 "NoHedgeTwice$Tour" "hedges" "[I" ∈ sm_G := sm_t2 93 rfl rfl
theorem wmX11_249 : Cond.methodLink RX11 249 yX11_scheduleBoth ∈ sm_G := sm_t3 127 rfl rfl
theorem wiX11_scheduleBoth : Cond.instanceMethod yX11_scheduleBoth ∈ sm_G := sm_t3 129 rfl rfl
theorem wvX11_scheduleBoth : Cond.selects RX11 yX11_scheduleBoth yX11_scheduleBoth ∈ sm_G := sm_t0 12 rfl rfl
theorem wcX11_scheduleBoth : Cond.code mX11_scheduleBoth.1 mX11_scheduleBoth.2.1 mX11_scheduleBoth.2.2.1 mX11_scheduleBoth.2.2.2 ∈ sm_G := sm_t3 130 rfl rfl
theorem cvX11_249 {M : sm_M} (hM : M.1.cls = RX11) : sm_cV M mX11_scheduleBoth 249 0 11 13 RX11 TX11 tyX11 := by
  refine ⟨kX11, rfl, ⟨by decide, by decide, by decide +kernel⟩, ?_, wiX11_scheduleBoth, wvX11_scheduleBoth, wIX11, wcX11_scheduleBoth⟩
  rw [hM]; exact wmX11_249
theorem wkX9_52 : Cond.constant RX9 52 (65535 : Int32) ∈ sm_G := sm_t3 134 rfl rfl
theorem wmX9_57 : Cond.methodLink RX9 57 Lib.Math.max.name ∈ sm_G := sm_t3 138 rfl rfl
theorem wmX9_62 : Cond.methodLink RX9 62 Lib.Math.min.name ∈ sm_G := sm_t3 139 rfl rfl
theorem wmX9_53 : Cond.methodLink RX9 53 yX9_minuteOfBoth ∈ sm_G := sm_t3 135 rfl rfl
theorem wsX9_minuteOfBoth : Cond.static yX9_minuteOfBoth ∈ sm_G := sm_t3 136 rfl rfl
theorem wcX9_minuteOfBoth : Cond.code mX9_minuteOfBoth.1 mX9_minuteOfBoth.2.1 mX9_minuteOfBoth.2.2.1 mX9_minuteOfBoth.2.2.2 ∈ sm_G := sm_t3 137 rfl rfl
theorem csX9_53 {M : sm_M} (hM : M.1.cls = RX9) : sm_cS M mX9_minuteOfBoth 53 5 := by
  refine ⟨⟨by decide, by decide, by decide +kernel⟩, ?_, wsX9_minuteOfBoth, wIX9, wcX9_minuteOfBoth⟩
  rw [hM]; exact wmX9_53
theorem wmX11_253 : Cond.methodLink RX11 253 yX9_firstMeeting ∈ sm_G := sm_t3 131 rfl rfl
theorem wsX9_firstMeeting : Cond.static yX9_firstMeeting ∈ sm_G := sm_t3 132 rfl rfl
theorem wcX9_firstMeeting : Cond.code mX9_firstMeeting.1 mX9_firstMeeting.2.1 mX9_firstMeeting.2.2.1 mX9_firstMeeting.2.2.2 ∈ sm_G := sm_t3 133 rfl rfl
theorem csX11_253 {M : sm_M} (hM : M.1.cls = RX11) : sm_cS M mX9_firstMeeting 253 3 := by
  refine ⟨⟨by decide, by decide, by decide +kernel⟩, ?_, wsX9_firstMeeting, wIX9, wcX9_firstMeeting⟩
  rw [hM]; exact wmX11_253
theorem wmX11_257 : Cond.methodLink RX11 257 yX6_isLight ∈ sm_G := sm_t3 148 rfl rfl
theorem cvX11_257 {M : sm_M} (hM : M.1.cls = RX11) : sm_cV M mX6_isLight 257 0 6 3 RX6 TX6 tyX6 := by
  refine ⟨kX6, rfl, ⟨by decide, by decide, by decide +kernel⟩, ?_, wiX6_isLight, wvX6_isLight, wIX6, wcX6_isLight⟩
  rw [hM]; exact wmX11_257
theorem wfX11_270 : Cond.fieldLink RX11 270 "NoHedgeTwice$Land" "corners" "I" ∈ sm_G := sm_t1 66 rfl rfl
theorem wmX11_267 : Cond.methodLink RX11 267 yX11_walkersCorner ∈ sm_G := sm_t3 159 rfl rfl
theorem wiX11_walkersCorner : Cond.instanceMethod yX11_walkersCorner ∈ sm_G := sm_t3 161 rfl rfl
theorem wvX11_walkersCorner : Cond.selects RX11 yX11_walkersCorner yX11_walkersCorner ∈ sm_G := sm_t0 13 rfl rfl
theorem wcX11_walkersCorner : Cond.code mX11_walkersCorner.1 mX11_walkersCorner.2.1 mX11_walkersCorner.2.2.1 mX11_walkersCorner.2.2.2 ∈ sm_G := sm_t3 162 rfl rfl
theorem cvX11_267 {M : sm_M} (hM : M.1.cls = RX11) : sm_cV M mX11_walkersCorner 267 0 11 13 RX11 TX11 tyX11 := by
  refine ⟨kX11, rfl, ⟨by decide, by decide, by decide +kernel⟩, ?_, wiX11_walkersCorner, wvX11_walkersCorner, wIX11, wcX11_walkersCorner⟩
  rw [hM]; exact wmX11_267
theorem wmX6_67 : Cond.methodLink RX6 67 Lib.Math.max.name ∈ sm_G := sm_t3 153 rfl rfl
theorem wmX11_260 : Cond.methodLink RX11 260 yX6_toNextDay ∈ sm_G := sm_t3 149 rfl rfl
theorem wiX6_toNextDay : Cond.instanceMethod yX6_toNextDay ∈ sm_G := sm_t3 150 rfl rfl
theorem wvX6_toNextDay : Cond.selects RX6 yX6_toNextDay yX6_toNextDay ∈ sm_G := sm_t3 151 rfl rfl
theorem wcX6_toNextDay : Cond.code mX6_toNextDay.1 mX6_toNextDay.2.1 mX6_toNextDay.2.2.1 mX6_toNextDay.2.2.2 ∈ sm_G := sm_t3 152 rfl rfl
theorem cvX11_260 {M : sm_M} (hM : M.1.cls = RX11) : sm_cV M mX6_toNextDay 260 1 6 3 RX6 TX6 tyX6 := by
  refine ⟨kX6, rfl, ⟨by decide, by decide, by decide +kernel⟩, ?_, wiX6_toNextDay, wvX6_toNextDay, wIX6, wcX6_toNextDay⟩
  rw [hM]; exact wmX11_260
theorem wfX6_57 : Cond.fieldLink RX6 57 "NoHedgeTwice$Land" "hedges" "I" ∈ sm_G := sm_t1 72 rfl rfl
theorem wmX6_63 : Cond.methodLink RX6 63 yX6_whyNot ∈ sm_G := sm_t3 158 rfl rfl
theorem cvX6_63 {M : sm_M} (hM : M.1.cls = RX6) : sm_cV M mX6_whyNot 63 2 6 3 RX6 TX6 tyX6 := by
  refine ⟨kX6, rfl, ⟨by decide, by decide, by decide +kernel⟩, ?_, wiX6_whyNot, wvX6_whyNot, wIX6, wcX6_whyNot⟩
  rw [hM]; exact wmX6_63
theorem wfX6_60 : Cond.fieldLink RX6 60 "NoHedgeTwice$Land" "worth" "[I" ∈ sm_G := sm_t1 108 rfl rfl
theorem wmX11_264 : Cond.methodLink RX11 264 yX6_dearest ∈ sm_G := sm_t3 154 rfl rfl
theorem wiX6_dearest : Cond.instanceMethod yX6_dearest ∈ sm_G := sm_t3 155 rfl rfl
theorem wvX6_dearest : Cond.selects RX6 yX6_dearest yX6_dearest ∈ sm_G := sm_t3 156 rfl rfl
theorem wcX6_dearest : Cond.code mX6_dearest.1 mX6_dearest.2.1 mX6_dearest.2.2.1 mX6_dearest.2.2.2 ∈ sm_G := sm_t3 157 rfl rfl
theorem cvX11_264 {M : sm_M} (hM : M.1.cls = RX11) : sm_cV M mX6_dearest 264 1 6 3 RX6 TX6 tyX6 := by
  refine ⟨kX6, rfl, ⟨by decide, by decide, by decide +kernel⟩, ?_, wiX6_dearest, wvX6_dearest, wIX6, wcX6_dearest⟩
  rw [hM]; exact wmX11_264
theorem wmX11_273 : Cond.methodLink RX11 273 yX2_everyHedge ∈ sm_G := sm_t3 167 rfl rfl
theorem wiX2_everyHedge : Cond.instanceMethod yX2_everyHedge ∈ sm_G := sm_t3 168 rfl rfl
theorem wvX2_everyHedge : Cond.selects RX2 yX2_everyHedge yX2_everyHedge ∈ sm_G := sm_t3 169 rfl rfl
theorem wcX2_everyHedge : Cond.code mX2_everyHedge.1 mX2_everyHedge.2.1 mX2_everyHedge.2.2.1 mX2_everyHedge.2.2.2 ∈ sm_G := sm_t3 170 rfl rfl
theorem cvX11_273 {M : sm_M} (hM : M.1.cls = RX11) : sm_cV M mX2_everyHedge 273 0 2 14 RX2 TX2 tyX2 := by
  refine ⟨kX2, rfl, ⟨by decide, by decide, by decide +kernel⟩, ?_, wiX2_everyHedge, wvX2_everyHedge, wIX2, wcX2_everyHedge⟩
  rw [hM]; exact wmX11_273
theorem wmX2_62 : Cond.methodLink RX2 62 yX2_endsOf ∈ sm_G := sm_t3 175 rfl rfl
theorem wiX2_endsOf : Cond.instanceMethod yX2_endsOf ∈ sm_G := sm_t3 176 rfl rfl
theorem wvX2_endsOf : Cond.selects RX2 yX2_endsOf yX2_endsOf ∈ sm_G := sm_t3 177 rfl rfl
theorem wcX2_endsOf : Cond.code mX2_endsOf.1 mX2_endsOf.2.1 mX2_endsOf.2.2.1 mX2_endsOf.2.2.2 ∈ sm_G := sm_t3 178 rfl rfl
theorem cvX2_62 {M : sm_M} (hM : M.1.cls = RX2) : sm_cV M mX2_endsOf 62 1 2 14 RX2 TX2 tyX2 := by
  refine ⟨kX2, rfl, ⟨by decide, by decide, by decide +kernel⟩, ?_, wiX2_endsOf, wvX2_endsOf, wIX2, wcX2_endsOf⟩
  rw [hM]; exact wmX2_62
theorem wmX11_276 : Cond.methodLink RX11 276 yX2_oddCorners ∈ sm_G := sm_t3 171 rfl rfl
theorem wiX2_oddCorners : Cond.instanceMethod yX2_oddCorners ∈ sm_G := sm_t3 172 rfl rfl
theorem wvX2_oddCorners : Cond.selects RX2 yX2_oddCorners yX2_oddCorners ∈ sm_G := sm_t3 173 rfl rfl
theorem wcX2_oddCorners : Cond.code mX2_oddCorners.1 mX2_oddCorners.2.1 mX2_oddCorners.2.2.1 mX2_oddCorners.2.2.2 ∈ sm_G := sm_t3 174 rfl rfl
theorem cvX11_276 {M : sm_M} (hM : M.1.cls = RX11) : sm_cV M mX2_oddCorners 276 1 2 14 RX2 TX2 tyX2 := by
  refine ⟨kX2, rfl, ⟨by decide, by decide, by decide +kernel⟩, ?_, wiX2_oddCorners, wvX2_oddCorners, wIX2, wcX2_oddCorners⟩
  rw [hM]; exact wmX11_276
theorem wkJ6_265 : Cond.constant RJ6 265 (1431655765 : Int32) ∈ sm_G := sm_t3 182 rfl rfl
theorem wkJ6_266 : Cond.constant RJ6 266 (858993459 : Int32) ∈ sm_G := sm_t3 183 rfl rfl
theorem wkJ6_267 : Cond.constant RJ6 267 (252645135 : Int32) ∈ sm_G := sm_t3 184 rfl rfl
theorem wmX11_279 : Cond.methodLink RX11 279 yJ6_bitCount_0f7a4 ∈ sm_G := sm_t3 179 rfl rfl
theorem wsJ6_bitCount_0f7a4 : Cond.static yJ6_bitCount_0f7a4 ∈ sm_G := sm_t3 180 rfl rfl
theorem wIJ6 : Cond.initialized RJ6 ∈ sm_G := sm_t1 19 rfl rfl
theorem wcJ6_bitCount_0f7a4 : Cond.code mJ6_bitCount_0f7a4.1 mJ6_bitCount_0f7a4.2.1 mJ6_bitCount_0f7a4.2.2.1 mJ6_bitCount_0f7a4.2.2.2 ∈ sm_G := sm_t3 181 rfl rfl
theorem csX11_279 {M : sm_M} (hM : M.1.cls = RX11) : sm_cS M mJ6_bitCount_0f7a4 279 1 := by
  refine ⟨⟨by decide, by decide, by decide +kernel⟩, ?_, wsJ6_bitCount_0f7a4, wIJ6, wcJ6_bitCount_0f7a4⟩
  rw [hM]; exact wmX11_279
theorem wmX11_284 : Cond.methodLink RX11 284 yX2_hanging ∈ sm_G := sm_t3 189 rfl rfl
theorem wiX2_hanging : Cond.instanceMethod yX2_hanging ∈ sm_G := sm_t3 190 rfl rfl
theorem wvX2_hanging : Cond.selects RX2 yX2_hanging yX2_hanging ∈ sm_G := sm_t3 191 rfl rfl
theorem wcX2_hanging : Cond.code mX2_hanging.1 mX2_hanging.2.1 mX2_hanging.2.2.1 mX2_hanging.2.2.2 ∈ sm_G := sm_t3 192 rfl rfl
theorem cvX11_284 {M : sm_M} (hM : M.1.cls = RX11) : sm_cV M mX2_hanging 284 2 2 14 RX2 TX2 tyX2 := by
  refine ⟨kX2, rfl, ⟨by decide, by decide, by decide +kernel⟩, ?_, wiX2_hanging, wvX2_hanging, wIX2, wcX2_hanging⟩
  rw [hM]; exact wmX11_284
theorem wmX2_77 : Cond.methodLink RX2 77 yX2_oddCorners ∈ sm_G := sm_t3 201 rfl rfl
theorem cvX2_77 {M : sm_M} (hM : M.1.cls = RX2) : sm_cV M mX2_oddCorners 77 1 2 14 RX2 TX2 tyX2 := by
  refine ⟨kX2, rfl, ⟨by decide, by decide, by decide +kernel⟩, ?_, wiX2_oddCorners, wvX2_oddCorners, wIX2, wcX2_oddCorners⟩
  rw [hM]; exact wmX2_77
theorem wmX2_69 : Cond.methodLink RX2 69 yX2_hanging ∈ sm_G := sm_t3 203 rfl rfl
theorem cvX2_69 {M : sm_M} (hM : M.1.cls = RX2) : sm_cV M mX2_hanging 69 2 2 14 RX2 TX2 tyX2 := by
  refine ⟨kX2, rfl, ⟨by decide, by decide, by decide +kernel⟩, ?_, wiX2_hanging, wvX2_hanging, wIX2, wcX2_hanging⟩
  rw [hM]; exact wmX2_69
theorem wmX2_73 : Cond.methodLink RX2 73 yX2_holdsAll ∈ sm_G := sm_t3 204 rfl rfl
theorem wiX2_holdsAll : Cond.instanceMethod yX2_holdsAll ∈ sm_G := sm_t3 206 rfl rfl
theorem wvX2_holdsAll : Cond.selects RX2 yX2_holdsAll yX2_holdsAll ∈ sm_G := sm_t0 14 rfl rfl
theorem wcX2_holdsAll : Cond.code mX2_holdsAll.1 mX2_holdsAll.2.1 mX2_holdsAll.2.2.1 mX2_holdsAll.2.2.2 ∈ sm_G := sm_t3 207 rfl rfl
theorem cvX2_73 {M : sm_M} (hM : M.1.cls = RX2) : sm_cV M mX2_holdsAll 73 2 2 14 RX2 TX2 tyX2 := by
  refine ⟨kX2, rfl, ⟨by decide, by decide, by decide +kernel⟩, ?_, wiX2_holdsAll, wvX2_holdsAll, wIX2, wcX2_holdsAll⟩
  rw [hM]; exact wmX2_73
theorem wmX2_80 : Cond.methodLink RX2 80 yJ6_bitCount_0f7a4 ∈ sm_G := sm_t3 202 rfl rfl
theorem csX2_80 {M : sm_M} (hM : M.1.cls = RX2) : sm_cS M mJ6_bitCount_0f7a4 80 1 := by
  refine ⟨⟨by decide, by decide, by decide +kernel⟩, ?_, wsJ6_bitCount_0f7a4, wIJ6, wcJ6_bitCount_0f7a4⟩
  rw [hM]; exact wmX2_80
theorem wmX11_287 : Cond.methodLink RX11 287 yX2_isTrail ∈ sm_G := sm_t3 197 rfl rfl
theorem wiX2_isTrail : Cond.instanceMethod yX2_isTrail ∈ sm_G := sm_t3 198 rfl rfl
theorem wvX2_isTrail : Cond.selects RX2 yX2_isTrail yX2_isTrail ∈ sm_G := sm_t3 199 rfl rfl
theorem wcX2_isTrail : Cond.code mX2_isTrail.1 mX2_isTrail.2.1 mX2_isTrail.2.2.1 mX2_isTrail.2.2.2 ∈ sm_G := sm_t3 200 rfl rfl
theorem cvX11_287 {M : sm_M} (hM : M.1.cls = RX11) : sm_cV M mX2_isTrail 287 2 2 14 RX2 TX2 tyX2 := by
  refine ⟨kX2, rfl, ⟨by decide, by decide, by decide +kernel⟩, ?_, wiX2_isTrail, wvX2_isTrail, wIX2, wcX2_isTrail⟩
  rw [hM]; exact wmX11_287
theorem wfX11_56 : Cond.fieldLink RX11 56 "NoHedgeTwice" "rounds" "LNoHedgeTwice$Rounds;" ∈ sm_G := sm_t2 117 rfl rfl
theorem wmX4_27 : Cond.methodLink RX4 27 yX5_clear ∈ sm_G := sm_t3 212 rfl rfl
theorem cvX4_27 {M : sm_M} (hM : M.1.cls = RX4) : sm_cV M mX5_clear 27 0 5 2 RX5 TX5 tyX5 := by
  refine ⟨kX5, rfl, ⟨by decide, by decide, by decide +kernel⟩, ?_, wiX5_clear, wvX5_clear, wIX5, wcX5_clear⟩
  rw [hM]; exact wmX4_27
theorem wmX4_32 : Cond.methodLink RX4 32 yX2_everyHedge ∈ sm_G := sm_t3 213 rfl rfl
theorem cvX4_32 {M : sm_M} (hM : M.1.cls = RX4) : sm_cV M mX2_everyHedge 32 0 2 14 RX2 TX2 tyX2 := by
  refine ⟨kX2, rfl, ⟨by decide, by decide, by decide +kernel⟩, ?_, wiX2_everyHedge, wvX2_everyHedge, wIX2, wcX2_everyHedge⟩
  rw [hM]; exact wmX4_32
theorem wfX4_38 : Cond.fieldLink RX4 38 "NoHedgeTwice$Land" "hedges" "I" ∈ sm_G := sm_t1 70 rfl rfl
theorem wmX4_56 : Cond.methodLink RX4 56 yX2_touches ∈ sm_G := sm_t3 217 rfl rfl
theorem cvX4_56 {M : sm_M} (hM : M.1.cls = RX4) : sm_cV M mX2_touches 56 2 2 14 RX2 TX2 tyX2 := by
  refine ⟨kX2, rfl, ⟨by decide, by decide, by decide +kernel⟩, ?_, wiX2_touches, wvX2_touches, wIX2, wcX2_touches⟩
  rw [hM]; exact wmX4_56
theorem wmX4_53 : Cond.methodLink RX4 53 yX2_otherEnd ∈ sm_G := sm_t3 218 rfl rfl
theorem cvX4_53 {M : sm_M} (hM : M.1.cls = RX4) : sm_cV M mX2_otherEnd 53 2 2 14 RX2 TX2 tyX2 := by
  refine ⟨kX2, rfl, ⟨by decide, by decide, by decide +kernel⟩, ?_, wiX2_otherEnd, wvX2_otherEnd, wIX2, wcX2_otherEnd⟩
  rw [hM]; exact wmX4_53
theorem wmX4_60 : Cond.methodLink RX4 60 yX2_isTrail ∈ sm_G := sm_t3 219 rfl rfl
theorem cvX4_60 {M : sm_M} (hM : M.1.cls = RX4) : sm_cV M mX2_isTrail 60 2 2 14 RX2 TX2 tyX2 := by
  refine ⟨kX2, rfl, ⟨by decide, by decide, by decide +kernel⟩, ?_, wiX2_isTrail, wvX2_isTrail, wIX2, wcX2_isTrail⟩
  rw [hM]; exact wmX4_60
theorem wmX4_42 : Cond.methodLink RX4 42 yX4_leastStep ∈ sm_G := sm_t3 214 rfl rfl
theorem wsX4_leastStep : Cond.static yX4_leastStep ∈ sm_G := sm_t3 215 rfl rfl
theorem wIX4 : Cond.initialized RX4 ∈ sm_G := sm_t1 7 rfl rfl
theorem wcX4_leastStep : Cond.code mX4_leastStep.1 mX4_leastStep.2.1 mX4_leastStep.2.2.1 mX4_leastStep.2.2.2 ∈ sm_G := sm_t3 216 rfl rfl
theorem csX4_42 {M : sm_M} (hM : M.1.cls = RX4) : sm_cS M mX4_leastStep 42 3 := by
  refine ⟨⟨by decide, by decide, by decide +kernel⟩, ?_, wsX4_leastStep, wIX4, wcX4_leastStep⟩
  rw [hM]; exact wmX4_42
theorem wmX4_46 : Cond.methodLink RX4 46 yX5_add ∈ sm_G := sm_t3 220 rfl rfl
theorem cvX4_46 {M : sm_M} (hM : M.1.cls = RX4) : sm_cV M mX5_add 46 1 5 2 RX5 TX5 tyX5 := by
  refine ⟨kX5, rfl, ⟨by decide, by decide, by decide +kernel⟩, ?_, wiX5_add, wvX5_add, wIX5, wcX5_add⟩
  rw [hM]; exact wmX4_46
theorem wmX4_49 : Cond.methodLink RX4 49 yX2_minutesFrom ∈ sm_G := sm_t3 221 rfl rfl
theorem cvX4_49 {M : sm_M} (hM : M.1.cls = RX4) : sm_cV M mX2_minutesFrom 49 2 2 14 RX2 TX2 tyX2 := by
  refine ⟨kX2, rfl, ⟨by decide, by decide, by decide +kernel⟩, ?_, wiX2_minutesFrom, wvX2_minutesFrom, wIX2, wcX2_minutesFrom⟩
  rw [hM]; exact wmX4_49
theorem uX4 : ∀ w ∈ u_ws RX4 TX4 3, w ∈ sm_G := sm_pk [330, 332, 334] (by decide +kernel) (by decide +kernel)
theorem kX4 : sm_Cl 4 3 RX4 TX4 tyX4 := ⟨rfl, uX4, tyX4_ok, nmX4, by decide⟩
theorem wmX11_291 : Cond.methodLink RX11 291 yX4_leastTrail ∈ sm_G := sm_t3 208 rfl rfl
theorem wiX4_leastTrail : Cond.instanceMethod yX4_leastTrail ∈ sm_G := sm_t3 209 rfl rfl
theorem wvX4_leastTrail : Cond.selects RX4 yX4_leastTrail yX4_leastTrail ∈ sm_G := sm_t3 210 rfl rfl
theorem wcX4_leastTrail : Cond.code mX4_leastTrail.1 mX4_leastTrail.2.1 mX4_leastTrail.2.2.1 mX4_leastTrail.2.2.2 ∈ sm_G := sm_t3 211 rfl rfl
theorem cvX11_291 {M : sm_M} (hM : M.1.cls = RX11) : sm_cV M mX4_leastTrail 291 3 4 3 RX4 TX4 tyX4 := by
  refine ⟨kX4, rfl, ⟨by decide, by decide, by decide +kernel⟩, ?_, wiX4_leastTrail, wvX4_leastTrail, wIX4, wcX4_leastTrail⟩
  rw [hM]; exact wmX11_291
theorem wmX2_65 : Cond.methodLink RX2 65 yX2_everyHedge ∈ sm_G := sm_t3 230 rfl rfl
theorem cvX2_65 {M : sm_M} (hM : M.1.cls = RX2) : sm_cV M mX2_everyHedge 65 0 2 14 RX2 TX2 tyX2 := by
  refine ⟨kX2, rfl, ⟨by decide, by decide, by decide +kernel⟩, ?_, wiX2_everyHedge, wvX2_everyHedge, wIX2, wcX2_everyHedge⟩
  rw [hM]; exact wmX2_65
theorem wmX11_295 : Cond.methodLink RX11 295 yX2_hangsTogether ∈ sm_G := sm_t3 226 rfl rfl
theorem wiX2_hangsTogether : Cond.instanceMethod yX2_hangsTogether ∈ sm_G := sm_t3 227 rfl rfl
theorem wvX2_hangsTogether : Cond.selects RX2 yX2_hangsTogether yX2_hangsTogether ∈ sm_G := sm_t3 228 rfl rfl
theorem wcX2_hangsTogether : Cond.code mX2_hangsTogether.1 mX2_hangsTogether.2.1 mX2_hangsTogether.2.2.1 mX2_hangsTogether.2.2.2 ∈ sm_G := sm_t3 229 rfl rfl
theorem cvX11_295 {M : sm_M} (hM : M.1.cls = RX11) : sm_cV M mX2_hangsTogether 295 0 2 14 RX2 TX2 tyX2 := by
  refine ⟨kX2, rfl, ⟨by decide, by decide, by decide +kernel⟩, ?_, wiX2_hangsTogether, wvX2_hangsTogether, wIX2, wcX2_hangsTogether⟩
  rw [hM]; exact wmX11_295
theorem wfX4_79 : Cond.fieldLink RX4 79 "NoHedgeTwice$Land" "corners" "I" ∈ sm_G := sm_t1 65 rfl rfl
theorem wfX4_9 : Cond.fieldLink RX4 9 "NoHedgeTwice$Rounds" "outward" "[I" ∈ sm_G := sm_t1 236 rfl rfl
theorem wfX4_82 : Cond.fieldLink RX4 82 "NoHedgeTwice$Land" "first" "[I" ∈ sm_G := sm_t1 87 rfl rfl
theorem wfX4_15 : Cond.fieldLink RX4 15 "NoHedgeTwice$Rounds" "inward" "[I" ∈ sm_G := sm_t1 237 rfl rfl
theorem wfX4_85 : Cond.fieldLink RX4 85 "NoHedgeTwice$Land" "second" "[I" ∈ sm_G := sm_t1 92 rfl rfl
theorem wmX4_66 : Cond.methodLink RX4 66 yX4_sortEnds ∈ sm_G := sm_t3 235 rfl rfl
theorem wiX4_sortEnds : Cond.instanceMethod yX4_sortEnds ∈ sm_G := sm_t3 237 rfl rfl
theorem wvX4_sortEnds : Cond.selects RX4 yX4_sortEnds yX4_sortEnds ∈ sm_G := sm_t0 15 rfl rfl
theorem wcX4_sortEnds : Cond.code mX4_sortEnds.1 mX4_sortEnds.2.1 mX4_sortEnds.2.2.1 mX4_sortEnds.2.2.2 ∈ sm_G := sm_t3 238 rfl rfl
theorem cvX4_66 {M : sm_M} (hM : M.1.cls = RX4) : sm_cV M mX4_sortEnds 66 1 4 3 RX4 TX4 tyX4 := by
  refine ⟨kX4, rfl, ⟨by decide, by decide, by decide +kernel⟩, ?_, wiX4_sortEnds, wvX4_sortEnds, wIX4, wcX4_sortEnds⟩
  rw [hM]; exact wmX4_66
theorem wkX4_70 : Cond.constant RX4 70 (65535 : Int32) ∈ sm_G := sm_t3 239 rfl rfl
theorem wmX4_88 : Cond.methodLink RX4 88 yJ6_bitCount_0f7a4 ∈ sm_G := sm_t4 4 rfl rfl
theorem csX4_88 {M : sm_M} (hM : M.1.cls = RX4) : sm_cS M mJ6_bitCount_0f7a4 88 1 := by
  refine ⟨⟨by decide, by decide, by decide +kernel⟩, ?_, wsJ6_bitCount_0f7a4, wIJ6, wcJ6_bitCount_0f7a4⟩
  rw [hM]; exact wmX4_88
theorem wmX4_71 : Cond.methodLink RX4 71 yX4_isBalanced ∈ sm_G := sm_t4 0 rfl rfl
theorem wiX4_isBalanced : Cond.instanceMethod yX4_isBalanced ∈ sm_G := sm_t4 2 rfl rfl
theorem wvX4_isBalanced : Cond.selects RX4 yX4_isBalanced yX4_isBalanced ∈ sm_G := sm_t0 16 rfl rfl
theorem wcX4_isBalanced : Cond.code mX4_isBalanced.1 mX4_isBalanced.2.1 mX4_isBalanced.2.2.1 mX4_isBalanced.2.2.2 ∈ sm_G := sm_t4 3 rfl rfl
theorem cvX4_71 {M : sm_M} (hM : M.1.cls = RX4) : sm_cV M mX4_isBalanced 71 2 4 3 RX4 TX4 tyX4 := by
  refine ⟨kX4, rfl, ⟨by decide, by decide, by decide +kernel⟩, ?_, wiX4_isBalanced, wvX4_isBalanced, wIX4, wcX4_isBalanced⟩
  rw [hM]; exact wmX4_71
theorem wfX4_63 : Cond.fieldLink RX4 63 "NoHedgeTwice$Land" "wind" "[I" ∈ sm_G := sm_t1 110 rfl rfl
theorem wmX4_75 : Cond.methodLink RX4 75 yX4_windOf ∈ sm_G := sm_t4 5 rfl rfl
theorem wiX4_windOf : Cond.instanceMethod yX4_windOf ∈ sm_G := sm_t4 6 rfl rfl
theorem wvX4_windOf : Cond.selects RX4 yX4_windOf yX4_windOf ∈ sm_G := sm_t4 7 rfl rfl
theorem wcX4_windOf : Cond.code mX4_windOf.1 mX4_windOf.2.1 mX4_windOf.2.2.1 mX4_windOf.2.2.2 ∈ sm_G := sm_t4 8 rfl rfl
theorem cvX4_75 {M : sm_M} (hM : M.1.cls = RX4) : sm_cV M mX4_windOf 75 2 4 3 RX4 TX4 tyX4 := by
  refine ⟨kX4, rfl, ⟨by decide, by decide, by decide +kernel⟩, ?_, wiX4_windOf, wvX4_windOf, wIX4, wcX4_windOf⟩
  rw [hM]; exact wmX4_75
theorem wmX11_298 : Cond.methodLink RX11 298 yX4_cheapestTurns ∈ sm_G := sm_t3 231 rfl rfl
theorem wiX4_cheapestTurns : Cond.instanceMethod yX4_cheapestTurns ∈ sm_G := sm_t3 232 rfl rfl
theorem wvX4_cheapestTurns : Cond.selects RX4 yX4_cheapestTurns yX4_cheapestTurns ∈ sm_G := sm_t3 233 rfl rfl
theorem wcX4_cheapestTurns : Cond.code mX4_cheapestTurns.1 mX4_cheapestTurns.2.1 mX4_cheapestTurns.2.2.1 mX4_cheapestTurns.2.2.2 ∈ sm_G := sm_t3 234 rfl rfl
theorem cvX11_298 {M : sm_M} (hM : M.1.cls = RX11) : sm_cV M mX4_cheapestTurns 298 1 4 3 RX4 TX4 tyX4 := by
  refine ⟨kX4, rfl, ⟨by decide, by decide, by decide +kernel⟩, ?_, wiX4_cheapestTurns, wvX4_cheapestTurns, wIX4, wcX4_cheapestTurns⟩
  rw [hM]; exact wmX11_298
theorem wmX11_301 : Cond.methodLink RX11 301 yX4_windOf ∈ sm_G := sm_t4 9 rfl rfl
theorem cvX11_301 {M : sm_M} (hM : M.1.cls = RX11) : sm_cV M mX4_windOf 301 2 4 3 RX4 TX4 tyX4 := by
  refine ⟨kX4, rfl, ⟨by decide, by decide, by decide +kernel⟩, ?_, wiX4_windOf, wvX4_windOf, wIX4, wcX4_windOf⟩
  rw [hM]; exact wmX11_301
theorem wmX4_94 : Cond.methodLink RX4 94 yX2_oddCorners ∈ sm_G := sm_t4 18 rfl rfl
theorem cvX4_94 {M : sm_M} (hM : M.1.cls = RX4) : sm_cV M mX2_oddCorners 94 1 2 14 RX2 TX2 tyX2 := by
  refine ⟨kX2, rfl, ⟨by decide, by decide, by decide +kernel⟩, ?_, wiX2_oddCorners, wvX2_oddCorners, wIX2, wcX2_oddCorners⟩
  rw [hM]; exact wmX4_94
theorem wfX4_23 : Cond.fieldLink RX4 23 "NoHedgeTwice$Rounds" "pairCost" "LNoHedgeTwice$Numbers;" ∈ sm_G := sm_t1 238 rfl rfl
theorem wkX3_27 : Cond.constant RX3 27 (65535 : Int32) ∈ sm_G := sm_t4 30 rfl rfl
theorem uX3 : ∀ w ∈ u_ws RX3 TX3 2, w ∈ sm_G := sm_pl (fun i _ h => lw_t1 i h) [230, 232] (by decide +kernel) (by decide +kernel)
theorem kX3 : sm_Cl 3 2 RX3 TX3 tyX3 := ⟨rfl, uX3, tyX3_ok, nmX3, by decide⟩
theorem wfX3_15 : Cond.fieldLink RX3 15 "NoHedgeTwice$Numbers" "places" "I" ∈ sm_G := sm_t1 228 rfl rfl
theorem wfX3_21 : Cond.fieldLink RX3 21 "NoHedgeTwice$Numbers" "fours" "[J" ∈ sm_G := sm_t1 229 rfl rfl
theorem wmX4_108 : Cond.methodLink RX4 108 yX3_at ∈ sm_G := sm_t4 26 rfl rfl
theorem wiX3_at : Cond.instanceMethod yX3_at ∈ sm_G := sm_t4 27 rfl rfl
theorem wvX3_at : Cond.selects RX3 yX3_at yX3_at ∈ sm_G := sm_t4 28 rfl rfl
theorem wIX3 : Cond.initialized RX3 ∈ sm_G := sm_t1 8 rfl rfl
theorem wcX3_at : Cond.code mX3_at.1 mX3_at.2.1 mX3_at.2.2.1 mX3_at.2.2.2 ∈ sm_G := sm_t4 29 rfl rfl
theorem cvX4_108 {M : sm_M} (hM : M.1.cls = RX4) : sm_cV M mX3_at 108 1 3 2 RX3 TX3 tyX3 := by
  refine ⟨kX3, rfl, ⟨by decide, by decide, by decide +kernel⟩, ?_, wiX3_at, wvX3_at, wIX3, wcX3_at⟩
  rw [hM]; exact wmX4_108
theorem wmX4_123 : Cond.methodLink RX4 123 yX2_grassBetween ∈ sm_G := sm_t4 35 rfl rfl
theorem cvX4_123 {M : sm_M} (hM : M.1.cls = RX4) : sm_cV M mX2_grassBetween 123 2 2 14 RX2 TX2 tyX2 := by
  refine ⟨kX2, rfl, ⟨by decide, by decide, by decide +kernel⟩, ?_, wiX2_grassBetween, wvX2_grassBetween, wIX2, wcX2_grassBetween⟩
  rw [hM]; exact wmX4_123
theorem wmX4_118 : Cond.methodLink RX4 118 Lib.Math.min.name ∈ sm_G := sm_t4 36 rfl rfl
theorem wmX4_114 : Cond.methodLink RX4 114 yX4_costWithPair ∈ sm_G := sm_t4 31 rfl rfl
theorem wiX4_costWithPair : Cond.instanceMethod yX4_costWithPair ∈ sm_G := sm_t4 33 rfl rfl
theorem wvX4_costWithPair : Cond.selects RX4 yX4_costWithPair yX4_costWithPair ∈ sm_G := sm_t0 18 rfl rfl
theorem wcX4_costWithPair : Cond.code mX4_costWithPair.1 mX4_costWithPair.2.1 mX4_costWithPair.2.2.1 mX4_costWithPair.2.2.2 ∈ sm_G := sm_t4 34 rfl rfl
theorem cvX4_114 {M : sm_M} (hM : M.1.cls = RX4) : sm_cV M mX4_costWithPair 114 5 4 3 RX4 TX4 tyX4 := by
  refine ⟨kX4, rfl, ⟨by decide, by decide, by decide +kernel⟩, ?_, wiX4_costWithPair, wvX4_costWithPair, wIX4, wcX4_costWithPair⟩
  rw [hM]; exact wmX4_114
theorem wmX4_126 : Cond.methodLink RX4 126 yX4_partnerOf ∈ sm_G := sm_t4 48 rfl rfl
theorem wiX4_partnerOf : Cond.instanceMethod yX4_partnerOf ∈ sm_G := sm_t4 50 rfl rfl
theorem wvX4_partnerOf : Cond.selects RX4 yX4_partnerOf yX4_partnerOf ∈ sm_G := sm_t0 20 rfl rfl
theorem wcX4_partnerOf : Cond.code mX4_partnerOf.1 mX4_partnerOf.2.1 mX4_partnerOf.2.2.1 mX4_partnerOf.2.2.2 ∈ sm_G := sm_t4 51 rfl rfl
theorem cvX4_126 {M : sm_M} (hM : M.1.cls = RX4) : sm_cV M mX4_partnerOf 126 4 4 3 RX4 TX4 tyX4 := by
  refine ⟨kX4, rfl, ⟨by decide, by decide, by decide +kernel⟩, ?_, wiX4_partnerOf, wvX4_partnerOf, wIX4, wcX4_partnerOf⟩
  rw [hM]; exact wmX4_126
theorem wmX4_130 : Cond.methodLink RX4 130 Lib.Math.max.name ∈ sm_G := sm_t4 52 rfl rfl
theorem wmX4_104 : Cond.methodLink RX4 104 yX4_tellPairs ∈ sm_G := sm_t4 44 rfl rfl
theorem wiX4_tellPairs : Cond.instanceMethod yX4_tellPairs ∈ sm_G := sm_t4 46 rfl rfl
theorem wvX4_tellPairs : Cond.selects RX4 yX4_tellPairs yX4_tellPairs ∈ sm_G := sm_t0 19 rfl rfl
theorem wcX4_tellPairs : Cond.code mX4_tellPairs.1 mX4_tellPairs.2.1 mX4_tellPairs.2.2.1 mX4_tellPairs.2.2.2 ∈ sm_G := sm_t4 47 rfl rfl
theorem cvX4_104 {M : sm_M} (hM : M.1.cls = RX4) : sm_cV M mX4_tellPairs 104 4 4 3 RX4 TX4 tyX4 := by
  refine ⟨kX4, rfl, ⟨by decide, by decide, by decide +kernel⟩, ?_, wiX4_tellPairs, wvX4_tellPairs, wIX4, wcX4_tellPairs⟩
  rw [hM]; exact wmX4_104
theorem wlX3_28 : Cond.constantLong RX3 28 (65535 : Int64) ∈ sm_G := sm_t4 41 rfl rfl
theorem wlX3_25 : Cond.constantLong RX3 25 (-1 : Int64) ∈ sm_G := sm_t4 42 rfl rfl
theorem wmX3_30 : Cond.methodLink RX3 30 Lib.Math.min.name ∈ sm_G := sm_t4 43 rfl rfl
theorem wmX4_100 : Cond.methodLink RX4 100 yX3_put ∈ sm_G := sm_t4 37 rfl rfl
theorem wiX3_put : Cond.instanceMethod yX3_put ∈ sm_G := sm_t4 38 rfl rfl
theorem wvX3_put : Cond.selects RX3 yX3_put yX3_put ∈ sm_G := sm_t4 39 rfl rfl
theorem wcX3_put : Cond.code mX3_put.1 mX3_put.2.1 mX3_put.2.2.1 mX3_put.2.2.2 ∈ sm_G := sm_t4 40 rfl rfl
theorem cvX4_100 {M : sm_M} (hM : M.1.cls = RX4) : sm_cV M mX3_put 100 2 3 2 RX3 TX3 tyX3 := by
  refine ⟨kX3, rfl, ⟨by decide, by decide, by decide +kernel⟩, ?_, wiX3_put, wvX3_put, wIX3, wcX3_put⟩
  rw [hM]; exact wmX4_100
theorem wmX4_111 : Cond.methodLink RX4 111 yX4_lowestOf ∈ sm_G := sm_t4 23 rfl rfl
theorem wsX4_lowestOf : Cond.static yX4_lowestOf ∈ sm_G := sm_t4 24 rfl rfl
theorem wcX4_lowestOf : Cond.code mX4_lowestOf.1 mX4_lowestOf.2.1 mX4_lowestOf.2.2.1 mX4_lowestOf.2.2.2 ∈ sm_G := sm_t4 25 rfl rfl
theorem csX4_111 {M : sm_M} (hM : M.1.cls = RX4) : sm_cS M mX4_lowestOf 111 1 := by
  refine ⟨⟨by decide, by decide, by decide +kernel⟩, ?_, wsX4_lowestOf, wIX4, wcX4_lowestOf⟩
  rw [hM]; exact wmX4_111
theorem wmX4_97 : Cond.methodLink RX4 97 yX4_costOf ∈ sm_G := sm_t4 19 rfl rfl
theorem wiX4_costOf : Cond.instanceMethod yX4_costOf ∈ sm_G := sm_t4 21 rfl rfl
theorem wvX4_costOf : Cond.selects RX4 yX4_costOf yX4_costOf ∈ sm_G := sm_t0 17 rfl rfl
theorem wcX4_costOf : Cond.code mX4_costOf.1 mX4_costOf.2.1 mX4_costOf.2.2.1 mX4_costOf.2.2.2 ∈ sm_G := sm_t4 22 rfl rfl
theorem cvX4_97 {M : sm_M} (hM : M.1.cls = RX4) : sm_cV M mX4_costOf 97 3 4 3 RX4 TX4 tyX4 := by
  refine ⟨kX4, rfl, ⟨by decide, by decide, by decide +kernel⟩, ?_, wiX4_costOf, wvX4_costOf, wIX4, wcX4_costOf⟩
  rw [hM]; exact wmX4_97
theorem wmX11_304 : Cond.methodLink RX11 304 yX4_leastGrass ∈ sm_G := sm_t4 14 rfl rfl
theorem wiX4_leastGrass : Cond.instanceMethod yX4_leastGrass ∈ sm_G := sm_t4 15 rfl rfl
theorem wvX4_leastGrass : Cond.selects RX4 yX4_leastGrass yX4_leastGrass ∈ sm_G := sm_t4 16 rfl rfl
theorem wcX4_leastGrass : Cond.code mX4_leastGrass.1 mX4_leastGrass.2.1 mX4_leastGrass.2.2.1 mX4_leastGrass.2.2.2 ∈ sm_G := sm_t4 17 rfl rfl
theorem cvX11_304 {M : sm_M} (hM : M.1.cls = RX11) : sm_cV M mX4_leastGrass 304 3 4 3 RX4 TX4 tyX4 := by
  refine ⟨kX4, rfl, ⟨by decide, by decide, by decide +kernel⟩, ?_, wiX4_leastGrass, wvX4_leastGrass, wIX4, wcX4_leastGrass⟩
  rw [hM]; exact wmX11_304
theorem wfX11_63 : Cond.fieldLink RX11 63 "NoHedgeTwice" "trips" "LNoHedgeTwice$Trips;" ∈ sm_G := sm_t2 118 rfl rfl
theorem wfX10_24 : Cond.fieldLink RX10 24 "NoHedgeTwice$Land" "hedges" "I" ∈ sm_G := sm_t1 68 rfl rfl
theorem uX10 : ∀ w ∈ u_ws RX10 TX10 2, w ∈ sm_G := sm_pl (fun i _ h => lw_t2 i h) [16, 18] (by decide +kernel) (by decide +kernel)
theorem kX10 : sm_Cl 10 2 RX10 TX10 tyX10 := ⟨rfl, uX10, tyX10_ok, nmX10, by decide⟩
theorem wfX10_20 : Cond.fieldLink RX10 20 "NoHedgeTwice$Trips" "sets" "I" ∈ sm_G := sm_t2 15 rfl rfl
theorem wfX10_14 : Cond.fieldLink RX10 14 "NoHedgeTwice$Trips" "fewest" "LNoHedgeTwice$Numbers;" ∈ sm_G := sm_t2 14 rfl rfl
theorem wmX10_29 : Cond.methodLink RX10 29 yX3_fillWithForever ∈ sm_G := sm_t4 69 rfl rfl
theorem wiX3_fillWithForever : Cond.instanceMethod yX3_fillWithForever ∈ sm_G := sm_t4 70 rfl rfl
theorem wvX3_fillWithForever : Cond.selects RX3 yX3_fillWithForever yX3_fillWithForever ∈ sm_G := sm_t4 71 rfl rfl
theorem wcX3_fillWithForever : Cond.code mX3_fillWithForever.1 mX3_fillWithForever.2.1 mX3_fillWithForever.2.2.1 mX3_fillWithForever.2.2.2 ∈ sm_G := sm_t4 72 rfl rfl
theorem cvX10_29 {M : sm_M} (hM : M.1.cls = RX10) : sm_cV M mX3_fillWithForever 29 1 3 2 RX3 TX3 tyX3 := by
  refine ⟨kX3, rfl, ⟨by decide, by decide, by decide +kernel⟩, ?_, wiX3_fillWithForever, wvX3_fillWithForever, wIX3, wcX3_fillWithForever⟩
  rw [hM]; exact wmX10_29
theorem wmX10_32 : Cond.methodLink RX10 32 yX3_put ∈ sm_G := sm_t4 73 rfl rfl
theorem cvX10_32 {M : sm_M} (hM : M.1.cls = RX10) : sm_cV M mX3_put 32 2 3 2 RX3 TX3 tyX3 := by
  refine ⟨kX3, rfl, ⟨by decide, by decide, by decide +kernel⟩, ?_, wiX3_put, wvX3_put, wIX3, wcX3_put⟩
  rw [hM]; exact wmX10_32
theorem wmX10_36 : Cond.methodLink RX10 36 yX3_at ∈ sm_G := sm_t4 74 rfl rfl
theorem cvX10_36 {M : sm_M} (hM : M.1.cls = RX10) : sm_cV M mX3_at 36 1 3 2 RX3 TX3 tyX3 := by
  refine ⟨kX3, rfl, ⟨by decide, by decide, by decide +kernel⟩, ?_, wiX3_at, wvX3_at, wIX3, wcX3_at⟩
  rw [hM]; exact wmX10_36
theorem wkX10_40 : Cond.constant RX10 40 (65535 : Int32) ∈ sm_G := sm_t4 75 rfl rfl
theorem wmX10_45 : Cond.methodLink RX10 45 yX2_touches ∈ sm_G := sm_t4 80 rfl rfl
theorem cvX10_45 {M : sm_M} (hM : M.1.cls = RX10) : sm_cV M mX2_touches 45 2 2 14 RX2 TX2 tyX2 := by
  refine ⟨kX2, rfl, ⟨by decide, by decide, by decide +kernel⟩, ?_, wiX2_touches, wvX2_touches, wIX2, wcX2_touches⟩
  rw [hM]; exact wmX10_45
theorem wmX10_49 : Cond.methodLink RX10 49 yX2_minutesFrom ∈ sm_G := sm_t4 81 rfl rfl
theorem cvX10_49 {M : sm_M} (hM : M.1.cls = RX10) : sm_cV M mX2_minutesFrom 49 2 2 14 RX2 TX2 tyX2 := by
  refine ⟨kX2, rfl, ⟨by decide, by decide, by decide +kernel⟩, ?_, wiX2_minutesFrom, wvX2_minutesFrom, wIX2, wcX2_minutesFrom⟩
  rw [hM]; exact wmX10_49
theorem wmX10_53 : Cond.methodLink RX10 53 yX2_otherEnd ∈ sm_G := sm_t4 82 rfl rfl
theorem cvX10_53 {M : sm_M} (hM : M.1.cls = RX10) : sm_cV M mX2_otherEnd 53 2 2 14 RX2 TX2 tyX2 := by
  refine ⟨kX2, rfl, ⟨by decide, by decide, by decide +kernel⟩, ?_, wiX2_otherEnd, wvX2_otherEnd, wIX2, wcX2_otherEnd⟩
  rw [hM]; exact wmX10_53
theorem wmX10_41 : Cond.methodLink RX10 41 yX10_extend ∈ sm_G := sm_t4 76 rfl rfl
theorem wiX10_extend : Cond.instanceMethod yX10_extend ∈ sm_G := sm_t4 78 rfl rfl
theorem wvX10_extend : Cond.selects RX10 yX10_extend yX10_extend ∈ sm_G := sm_t0 22 rfl rfl
theorem wIX10 : Cond.initialized RX10 ∈ sm_G := sm_t1 10 rfl rfl
theorem wcX10_extend : Cond.code mX10_extend.1 mX10_extend.2.1 mX10_extend.2.2.1 mX10_extend.2.2.2 ∈ sm_G := sm_t4 79 rfl rfl
theorem cvX10_41 {M : sm_M} (hM : M.1.cls = RX10) : sm_cV M mX10_extend 41 4 10 2 RX10 TX10 tyX10 := by
  refine ⟨kX10, rfl, ⟨by decide, by decide, by decide +kernel⟩, ?_, wiX10_extend, wvX10_extend, wIX10, wcX10_extend⟩
  rw [hM]; exact wmX10_41
theorem wmX11_311 : Cond.methodLink RX11 311 yX10_explore ∈ sm_G := sm_t4 65 rfl rfl
theorem wiX10_explore : Cond.instanceMethod yX10_explore ∈ sm_G := sm_t4 66 rfl rfl
theorem wvX10_explore : Cond.selects RX10 yX10_explore yX10_explore ∈ sm_G := sm_t4 67 rfl rfl
theorem wcX10_explore : Cond.code mX10_explore.1 mX10_explore.2.1 mX10_explore.2.2.1 mX10_explore.2.2.2 ∈ sm_G := sm_t4 68 rfl rfl
theorem cvX11_311 {M : sm_M} (hM : M.1.cls = RX11) : sm_cV M mX10_explore 311 3 10 2 RX10 TX10 tyX10 := by
  refine ⟨kX10, rfl, ⟨by decide, by decide, by decide +kernel⟩, ?_, wiX10_explore, wvX10_explore, wIX10, wcX10_explore⟩
  rw [hM]; exact wmX11_311
theorem wfX2_46 : Cond.fieldLink RX2 46 "NoHedgeTwice$Land" "worth" "[I" ∈ sm_G := sm_t1 105 rfl rfl
theorem wmX10_56 : Cond.methodLink RX10 56 yX2_worthOf ∈ sm_G := sm_t4 87 rfl rfl
theorem wiX2_worthOf : Cond.instanceMethod yX2_worthOf ∈ sm_G := sm_t4 88 rfl rfl
theorem wvX2_worthOf : Cond.selects RX2 yX2_worthOf yX2_worthOf ∈ sm_G := sm_t4 89 rfl rfl
theorem wcX2_worthOf : Cond.code mX2_worthOf.1 mX2_worthOf.2.1 mX2_worthOf.2.2.1 mX2_worthOf.2.2.2 ∈ sm_G := sm_t4 90 rfl rfl
theorem cvX10_56 {M : sm_M} (hM : M.1.cls = RX10) : sm_cV M mX2_worthOf 56 1 2 14 RX2 TX2 tyX2 := by
  refine ⟨kX2, rfl, ⟨by decide, by decide, by decide +kernel⟩, ?_, wiX2_worthOf, wvX2_worthOf, wIX2, wcX2_worthOf⟩
  rw [hM]; exact wmX10_56
theorem wmX10_59 : Cond.methodLink RX10 59 yX10_minutesOf ∈ sm_G := sm_t4 91 rfl rfl
theorem wiX10_minutesOf : Cond.instanceMethod yX10_minutesOf ∈ sm_G := sm_t4 92 rfl rfl
theorem wvX10_minutesOf : Cond.selects RX10 yX10_minutesOf yX10_minutesOf ∈ sm_G := sm_t4 93 rfl rfl
theorem wcX10_minutesOf : Cond.code mX10_minutesOf.1 mX10_minutesOf.2.1 mX10_minutesOf.2.2.1 mX10_minutesOf.2.2.2 ∈ sm_G := sm_t4 94 rfl rfl
theorem cvX10_59 {M : sm_M} (hM : M.1.cls = RX10) : sm_cV M mX10_minutesOf 59 1 10 2 RX10 TX10 tyX10 := by
  refine ⟨kX10, rfl, ⟨by decide, by decide, by decide +kernel⟩, ?_, wiX10_minutesOf, wvX10_minutesOf, wIX10, wcX10_minutesOf⟩
  rw [hM]; exact wmX10_59
theorem wmX11_315 : Cond.methodLink RX11 315 yX10_dearest ∈ sm_G := sm_t4 83 rfl rfl
theorem wiX10_dearest : Cond.instanceMethod yX10_dearest ∈ sm_G := sm_t4 84 rfl rfl
theorem wvX10_dearest : Cond.selects RX10 yX10_dearest yX10_dearest ∈ sm_G := sm_t4 85 rfl rfl
theorem wcX10_dearest : Cond.code mX10_dearest.1 mX10_dearest.2.1 mX10_dearest.2.2.1 mX10_dearest.2.2.2 ∈ sm_G := sm_t4 86 rfl rfl
theorem cvX11_315 {M : sm_M} (hM : M.1.cls = RX11) : sm_cV M mX10_dearest 315 3 10 2 RX10 TX10 tyX10 := by
  refine ⟨kX10, rfl, ⟨by decide, by decide, by decide +kernel⟩, ?_, wiX10_dearest, wvX10_dearest, wIX10, wcX10_dearest⟩
  rw [hM]; exact wmX11_315
theorem wmX11_318 : Cond.methodLink RX11 318 yX10_minutesOf ∈ sm_G := sm_t4 95 rfl rfl
theorem cvX11_318 {M : sm_M} (hM : M.1.cls = RX11) : sm_cV M mX10_minutesOf 318 1 10 2 RX10 TX10 tyX10 := by
  refine ⟨kX10, rfl, ⟨by decide, by decide, by decide +kernel⟩, ?_, wiX10_minutesOf, wvX10_minutesOf, wIX10, wcX10_minutesOf⟩
  rw [hM]; exact wmX11_318
theorem wmX11_321 : Cond.methodLink RX11 321 yX2_worthOf ∈ sm_G := sm_t4 96 rfl rfl
theorem cvX11_321 {M : sm_M} (hM : M.1.cls = RX11) : sm_cV M mX2_worthOf 321 1 2 14 RX2 TX2 tyX2 := by
  refine ⟨kX2, rfl, ⟨by decide, by decide, by decide +kernel⟩, ?_, wiX2_worthOf, wvX2_worthOf, wIX2, wcX2_worthOf⟩
  rw [hM]; exact wmX11_321
theorem wmX11_307 : Cond.methodLink RX11 307 yX11_mostWorth ∈ sm_G := sm_t4 61 rfl rfl
theorem wiX11_mostWorth : Cond.instanceMethod yX11_mostWorth ∈ sm_G := sm_t4 63 rfl rfl
theorem wvX11_mostWorth : Cond.selects RX11 yX11_mostWorth yX11_mostWorth ∈ sm_G := sm_t0 21 rfl rfl
theorem wcX11_mostWorth : Cond.code mX11_mostWorth.1 mX11_mostWorth.2.1 mX11_mostWorth.2.2.1 mX11_mostWorth.2.2.2 ∈ sm_G := sm_t4 64 rfl rfl
theorem cvX11_307 {M : sm_M} (hM : M.1.cls = RX11) : sm_cV M mX11_mostWorth 307 3 11 13 RX11 TX11 tyX11 := by
  refine ⟨kX11, rfl, ⟨by decide, by decide, by decide +kernel⟩, ?_, wiX11_mostWorth, wvX11_mostWorth, wIX11, wcX11_mostWorth⟩
  rw [hM]; exact wmX11_307
theorem wmX11_324 : Cond.methodLink RX11 324 yX10_quickest ∈ sm_G := sm_t4 105 rfl rfl
theorem wiX10_quickest : Cond.instanceMethod yX10_quickest ∈ sm_G := sm_t4 106 rfl rfl
theorem wvX10_quickest : Cond.selects RX10 yX10_quickest yX10_quickest ∈ sm_G := sm_t4 107 rfl rfl
theorem wcX10_quickest : Cond.code mX10_quickest.1 mX10_quickest.2.1 mX10_quickest.2.2.1 mX10_quickest.2.2.2 ∈ sm_G := sm_t4 108 rfl rfl
theorem cvX11_324 {M : sm_M} (hM : M.1.cls = RX11) : sm_cV M mX10_quickest 324 2 10 2 RX10 TX10 tyX10 := by
  refine ⟨kX10, rfl, ⟨by decide, by decide, by decide +kernel⟩, ?_, wiX10_quickest, wvX10_quickest, wIX10, wcX10_quickest⟩
  rw [hM]; exact wmX11_324
theorem wfX11_70 : Cond.fieldLink RX11 70 "NoHedgeTwice" "gateWalk" "LNoHedgeTwice$GateWalk;" ∈ sm_G := sm_t2 119 rfl rfl
theorem uX1 : ∀ w ∈ u_ws RX1 TX1 7, w ∈ sm_G := sm_pl (fun i _ h => lw_t2 i h) [38, 40, 42, 44, 46, 48, 50] (by decide +kernel) (by decide +kernel)
theorem kX1 : sm_Cl 1 7 RX1 TX1 tyX1 := ⟨rfl, uX1, tyX1_ok, nmX1, by decide⟩
theorem wfX1_15 : Cond.fieldLink RX1 15 "NoHedgeTwice$GateWalk" "gateCount" "I" ∈ sm_G := sm_t2 32 rfl rfl
theorem wfX1_42 : Cond.fieldLink RX1 42 "NoHedgeTwice$Land" "hedges" "I" ∈ sm_G := sm_t1 69 rfl rfl
theorem wfX1_19 : Cond.fieldLink RX1 19 "NoHedgeTwice$GateWalk" "stride" "I" ∈ sm_G := sm_t2 33 rfl rfl
theorem wfX1_58 : Cond.fieldLink RX1 58 "NoHedgeTwice$Land" "corners" "I" ∈ sm_G := sm_t1 63 rfl rfl
theorem wfX1_47 : Cond.fieldLink RX1 47 "NoHedgeTwice$Land" "gate" "[Z" ∈ sm_G := sm_t1 114 rfl rfl
theorem wfX1_65 : Cond.fieldLink RX1 65 "NoHedgeTwice$Land" "first" "[I" ∈ sm_G := sm_t1 85 rfl rfl
theorem wfX1_68 : Cond.fieldLink RX1 68 "NoHedgeTwice$Land" "second" "[I" ∈ sm_G := sm_t1 90 rfl rfl
theorem wfX1_30 : Cond.fieldLink RX1 30 "NoHedgeTwice$GateWalk" "path" "[[I" ∈ sm_G := sm_t2 36 rfl rfl
theorem wmX1_71 : Cond.methodLink RX1 71 yX2_minutesFrom ∈ sm_G := sm_t4 126 rfl rfl
theorem cvX1_71 {M : sm_M} (hM : M.1.cls = RX1) : sm_cV M mX2_minutesFrom 71 2 2 14 RX2 TX2 tyX2 := by
  refine ⟨kX2, rfl, ⟨by decide, by decide, by decide +kernel⟩, ?_, wiX2_minutesFrom, wvX2_minutesFrom, wIX2, wcX2_minutesFrom⟩
  rw [hM]; exact wmX1_71
theorem wmX1_75 : Cond.methodLink RX1 75 Lib.Math.min.name ∈ sm_G := sm_t4 127 rfl rfl
theorem wkX1_64 : Cond.constant RX1 64 (65535 : Int32) ∈ sm_G := sm_t4 125 rfl rfl
theorem wmX1_51 : Cond.methodLink RX1 51 yX1_layPaths ∈ sm_G := sm_t4 121 rfl rfl
theorem wiX1_layPaths : Cond.instanceMethod yX1_layPaths ∈ sm_G := sm_t4 123 rfl rfl
theorem wvX1_layPaths : Cond.selects RX1 yX1_layPaths yX1_layPaths ∈ sm_G := sm_t0 23 rfl rfl
theorem wIX1 : Cond.initialized RX1 ∈ sm_G := sm_t1 11 rfl rfl
theorem wcX1_layPaths : Cond.code mX1_layPaths.1 mX1_layPaths.2.1 mX1_layPaths.2.2.1 mX1_layPaths.2.2.2 ∈ sm_G := sm_t4 124 rfl rfl
theorem cvX1_51 {M : sm_M} (hM : M.1.cls = RX1) : sm_cV M mX1_layPaths 51 1 1 7 RX1 TX1 tyX1 := by
  refine ⟨kX1, rfl, ⟨by decide, by decide, by decide +kernel⟩, ?_, wiX1_layPaths, wvX1_layPaths, wIX1, wcX1_layPaths⟩
  rw [hM]; exact wmX1_51
theorem wmX1_55 : Cond.methodLink RX1 55 yX1_shortenPaths ∈ sm_G := sm_t4 128 rfl rfl
theorem wiX1_shortenPaths : Cond.instanceMethod yX1_shortenPaths ∈ sm_G := sm_t4 130 rfl rfl
theorem wvX1_shortenPaths : Cond.selects RX1 yX1_shortenPaths yX1_shortenPaths ∈ sm_G := sm_t0 24 rfl rfl
theorem wcX1_shortenPaths : Cond.code mX1_shortenPaths.1 mX1_shortenPaths.2.1 mX1_shortenPaths.2.2.1 mX1_shortenPaths.2.2.2 ∈ sm_G := sm_t4 131 rfl rfl
theorem cvX1_55 {M : sm_M} (hM : M.1.cls = RX1) : sm_cV M mX1_shortenPaths 55 1 1 7 RX1 TX1 tyX1 := by
  refine ⟨kX1, rfl, ⟨by decide, by decide, by decide +kernel⟩, ?_, wiX1_shortenPaths, wvX1_shortenPaths, wIX1, wcX1_shortenPaths⟩
  rw [hM]; exact wmX1_55
theorem wfX1_22 : Cond.fieldLink RX1 22 "NoHedgeTwice$GateWalk" "part" "[I" ∈ sm_G := sm_t2 34 rfl rfl
theorem wfX1_25 : Cond.fieldLink RX1 25 "NoHedgeTwice$GateWalk" "rank" "[I" ∈ sm_G := sm_t2 35 rfl rfl
theorem wmX1_61 : Cond.methodLink RX1 61 yX1_numberInPart ∈ sm_G := sm_t4 132 rfl rfl
theorem wiX1_numberInPart : Cond.instanceMethod yX1_numberInPart ∈ sm_G := sm_t4 134 rfl rfl
theorem wvX1_numberInPart : Cond.selects RX1 yX1_numberInPart yX1_numberInPart ∈ sm_G := sm_t0 25 rfl rfl
theorem wcX1_numberInPart : Cond.code mX1_numberInPart.1 mX1_numberInPart.2.1 mX1_numberInPart.2.2.1 mX1_numberInPart.2.2.2 ∈ sm_G := sm_t4 135 rfl rfl
theorem cvX1_61 {M : sm_M} (hM : M.1.cls = RX1) : sm_cV M mX1_numberInPart 61 1 1 7 RX1 TX1 tyX1 := by
  refine ⟨kX1, rfl, ⟨by decide, by decide, by decide +kernel⟩, ?_, wiX1_numberInPart, wvX1_numberInPart, wIX1, wcX1_numberInPart⟩
  rw [hM]; exact wmX1_61
theorem wfX1_9 : Cond.fieldLink RX1 9 "NoHedgeTwice$GateWalk" "gateHedge" "[I" ∈ sm_G := sm_t2 31 rfl rfl
theorem wmX11_329 : Cond.methodLink RX11 329 yX1_prepare ∈ sm_G := sm_t4 117 rfl rfl
theorem wiX1_prepare : Cond.instanceMethod yX1_prepare ∈ sm_G := sm_t4 118 rfl rfl
theorem wvX1_prepare : Cond.selects RX1 yX1_prepare yX1_prepare ∈ sm_G := sm_t4 119 rfl rfl
theorem wcX1_prepare : Cond.code mX1_prepare.1 mX1_prepare.2.1 mX1_prepare.2.2.1 mX1_prepare.2.2.2 ∈ sm_G := sm_t4 120 rfl rfl
theorem cvX11_329 {M : sm_M} (hM : M.1.cls = RX11) : sm_cV M mX1_prepare 329 1 1 7 RX1 TX1 tyX1 := by
  refine ⟨kX1, rfl, ⟨by decide, by decide, by decide +kernel⟩, ?_, wiX1_prepare, wvX1_prepare, wIX1, wcX1_prepare⟩
  rw [hM]; exact wmX11_329
theorem wmX1_80 : Cond.methodLink RX1 80 yX1_partAfter ∈ sm_G := sm_t4 140 rfl rfl
theorem wiX1_partAfter : Cond.instanceMethod yX1_partAfter ∈ sm_G := sm_t4 142 rfl rfl
theorem wvX1_partAfter : Cond.selects RX1 yX1_partAfter yX1_partAfter ∈ sm_G := sm_t0 26 rfl rfl
theorem wcX1_partAfter : Cond.code mX1_partAfter.1 mX1_partAfter.2.1 mX1_partAfter.2.2.1 mX1_partAfter.2.2.2 ∈ sm_G := sm_t4 143 rfl rfl
theorem cvX1_80 {M : sm_M} (hM : M.1.cls = RX1) : sm_cV M mX1_partAfter 80 3 1 7 RX1 TX1 tyX1 := by
  refine ⟨kX1, rfl, ⟨by decide, by decide, by decide +kernel⟩, ?_, wiX1_partAfter, wvX1_partAfter, wIX1, wcX1_partAfter⟩
  rw [hM]; exact wmX1_80
theorem wmX1_84 : Cond.methodLink RX1 84 yJ6_bitCount_0f7a4 ∈ sm_G := sm_t4 144 rfl rfl
theorem csX1_84 {M : sm_M} (hM : M.1.cls = RX1) : sm_cS M mJ6_bitCount_0f7a4 84 1 := by
  refine ⟨⟨by decide, by decide, by decide +kernel⟩, ?_, wsJ6_bitCount_0f7a4, wIJ6, wcJ6_bitCount_0f7a4⟩
  rw [hM]; exact wmX1_84
theorem wfX1_38 : Cond.fieldLink RX1 38 "NoHedgeTwice$GateWalk" "fewest" "LNoHedgeTwice$Numbers;" ∈ sm_G := sm_t2 37 rfl rfl
theorem wmX1_90 : Cond.methodLink RX1 90 yX1_placeOf ∈ sm_G := sm_t4 145 rfl rfl
theorem wiX1_placeOf : Cond.instanceMethod yX1_placeOf ∈ sm_G := sm_t4 147 rfl rfl
theorem wvX1_placeOf : Cond.selects RX1 yX1_placeOf yX1_placeOf ∈ sm_G := sm_t0 27 rfl rfl
theorem wcX1_placeOf : Cond.code mX1_placeOf.1 mX1_placeOf.2.1 mX1_placeOf.2.2.1 mX1_placeOf.2.2.2 ∈ sm_G := sm_t4 148 rfl rfl
theorem cvX1_90 {M : sm_M} (hM : M.1.cls = RX1) : sm_cV M mX1_placeOf 90 2 1 7 RX1 TX1 tyX1 := by
  refine ⟨kX1, rfl, ⟨by decide, by decide, by decide +kernel⟩, ?_, wiX1_placeOf, wvX1_placeOf, wIX1, wcX1_placeOf⟩
  rw [hM]; exact wmX1_90
theorem wmX1_100 : Cond.methodLink RX1 100 yX3_at ∈ sm_G := sm_t4 158 rfl rfl
theorem cvX1_100 {M : sm_M} (hM : M.1.cls = RX1) : sm_cV M mX3_at 100 1 3 2 RX3 TX3 tyX3 := by
  refine ⟨kX3, rfl, ⟨by decide, by decide, by decide +kernel⟩, ?_, wiX3_at, wvX3_at, wIX3, wcX3_at⟩
  rw [hM]; exact wmX1_100
theorem wmX1_107 : Cond.methodLink RX1 107 yX2_otherEnd ∈ sm_G := sm_t4 157 rfl rfl
theorem cvX1_107 {M : sm_M} (hM : M.1.cls = RX1) : sm_cV M mX2_otherEnd 107 2 2 14 RX2 TX2 tyX2 := by
  refine ⟨kX2, rfl, ⟨by decide, by decide, by decide +kernel⟩, ?_, wiX2_otherEnd, wvX2_otherEnd, wIX2, wcX2_otherEnd⟩
  rw [hM]; exact wmX1_107
theorem wmX1_103 : Cond.methodLink RX1 103 yX1_minutesBy ∈ sm_G := sm_t4 153 rfl rfl
theorem wiX1_minutesBy : Cond.instanceMethod yX1_minutesBy ∈ sm_G := sm_t4 155 rfl rfl
theorem wvX1_minutesBy : Cond.selects RX1 yX1_minutesBy yX1_minutesBy ∈ sm_G := sm_t0 29 rfl rfl
theorem wcX1_minutesBy : Cond.code mX1_minutesBy.1 mX1_minutesBy.2.1 mX1_minutesBy.2.2.1 mX1_minutesBy.2.2.2 ∈ sm_G := sm_t4 156 rfl rfl
theorem cvX1_103 {M : sm_M} (hM : M.1.cls = RX1) : sm_cV M mX1_minutesBy 103 5 1 7 RX1 TX1 tyX1 := by
  refine ⟨kX1, rfl, ⟨by decide, by decide, by decide +kernel⟩, ?_, wiX1_minutesBy, wvX1_minutesBy, wIX1, wcX1_minutesBy⟩
  rw [hM]; exact wmX1_103
theorem wmX1_93 : Cond.methodLink RX1 93 yX1_bestOn ∈ sm_G := sm_t4 149 rfl rfl
theorem wiX1_bestOn : Cond.instanceMethod yX1_bestOn ∈ sm_G := sm_t4 151 rfl rfl
theorem wvX1_bestOn : Cond.selects RX1 yX1_bestOn yX1_bestOn ∈ sm_G := sm_t0 28 rfl rfl
theorem wcX1_bestOn : Cond.code mX1_bestOn.1 mX1_bestOn.2.1 mX1_bestOn.2.2.1 mX1_bestOn.2.2.2 ∈ sm_G := sm_t4 152 rfl rfl
theorem cvX1_93 {M : sm_M} (hM : M.1.cls = RX1) : sm_cV M mX1_bestOn 93 3 1 7 RX1 TX1 tyX1 := by
  refine ⟨kX1, rfl, ⟨by decide, by decide, by decide +kernel⟩, ?_, wiX1_bestOn, wvX1_bestOn, wIX1, wcX1_bestOn⟩
  rw [hM]; exact wmX1_93
theorem wmX1_96 : Cond.methodLink RX1 96 yX3_put ∈ sm_G := sm_t4 159 rfl rfl
theorem cvX1_96 {M : sm_M} (hM : M.1.cls = RX1) : sm_cV M mX3_put 96 2 3 2 RX3 TX3 tyX3 := by
  refine ⟨kX3, rfl, ⟨by decide, by decide, by decide +kernel⟩, ?_, wiX3_put, wvX3_put, wIX3, wcX3_put⟩
  rw [hM]; exact wmX1_96
theorem wmX11_333 : Cond.methodLink RX11 333 yX1_fewestMinutes ∈ sm_G := sm_t4 136 rfl rfl
theorem wiX1_fewestMinutes : Cond.instanceMethod yX1_fewestMinutes ∈ sm_G := sm_t4 137 rfl rfl
theorem wvX1_fewestMinutes : Cond.selects RX1 yX1_fewestMinutes yX1_fewestMinutes ∈ sm_G := sm_t4 138 rfl rfl
theorem wcX1_fewestMinutes : Cond.code mX1_fewestMinutes.1 mX1_fewestMinutes.2.1 mX1_fewestMinutes.2.2.1 mX1_fewestMinutes.2.2.2 ∈ sm_G := sm_t4 139 rfl rfl
theorem cvX11_333 {M : sm_M} (hM : M.1.cls = RX11) : sm_cV M mX1_fewestMinutes 333 2 1 7 RX1 TX1 tyX1 := by
  refine ⟨kX1, rfl, ⟨by decide, by decide, by decide +kernel⟩, ?_, wiX1_fewestMinutes, wvX1_fewestMinutes, wIX1, wcX1_fewestMinutes⟩
  rw [hM]; exact wmX11_333
theorem wmX1_110 : Cond.methodLink RX1 110 yX5_clear ∈ sm_G := sm_t4 164 rfl rfl
theorem cvX1_110 {M : sm_M} (hM : M.1.cls = RX1) : sm_cV M mX5_clear 110 0 5 2 RX5 TX5 tyX5 := by
  refine ⟨kX5, rfl, ⟨by decide, by decide, by decide +kernel⟩, ?_, wiX5_clear, wvX5_clear, wIX5, wcX5_clear⟩
  rw [hM]; exact wmX1_110
theorem wmX1_115 : Cond.methodLink RX1 115 yX1_endsOfBest ∈ sm_G := sm_t4 165 rfl rfl
theorem wiX1_endsOfBest : Cond.instanceMethod yX1_endsOfBest ∈ sm_G := sm_t4 167 rfl rfl
theorem wvX1_endsOfBest : Cond.selects RX1 yX1_endsOfBest yX1_endsOfBest ∈ sm_G := sm_t0 30 rfl rfl
theorem wcX1_endsOfBest : Cond.code mX1_endsOfBest.1 mX1_endsOfBest.2.1 mX1_endsOfBest.2.2.1 mX1_endsOfBest.2.2.2 ∈ sm_G := sm_t4 168 rfl rfl
theorem cvX1_115 {M : sm_M} (hM : M.1.cls = RX1) : sm_cV M mX1_endsOfBest 115 4 1 7 RX1 TX1 tyX1 := by
  refine ⟨kX1, rfl, ⟨by decide, by decide, by decide +kernel⟩, ?_, wiX1_endsOfBest, wvX1_endsOfBest, wIX1, wcX1_endsOfBest⟩
  rw [hM]; exact wmX1_115
theorem wmX1_119 : Cond.methodLink RX1 119 yX5_add ∈ sm_G := sm_t4 169 rfl rfl
theorem cvX1_119 {M : sm_M} (hM : M.1.cls = RX1) : sm_cV M mX5_add 119 1 5 2 RX5 TX5 tyX5 := by
  refine ⟨kX5, rfl, ⟨by decide, by decide, by decide +kernel⟩, ?_, wiX5_add, wvX5_add, wIX5, wcX5_add⟩
  rw [hM]; exact wmX1_119
theorem wmX11_336 : Cond.methodLink RX11 336 yX1_tellLeastOrder ∈ sm_G := sm_t4 160 rfl rfl
theorem wiX1_tellLeastOrder : Cond.instanceMethod yX1_tellLeastOrder ∈ sm_G := sm_t4 161 rfl rfl
theorem wvX1_tellLeastOrder : Cond.selects RX1 yX1_tellLeastOrder yX1_tellLeastOrder ∈ sm_G := sm_t4 162 rfl rfl
theorem wcX1_tellLeastOrder : Cond.code mX1_tellLeastOrder.1 mX1_tellLeastOrder.2.1 mX1_tellLeastOrder.2.2.1 mX1_tellLeastOrder.2.2.2 ∈ sm_G := sm_t4 163 rfl rfl
theorem cvX11_336 {M : sm_M} (hM : M.1.cls = RX11) : sm_cV M mX1_tellLeastOrder 336 3 1 7 RX1 TX1 tyX1 := by
  refine ⟨kX1, rfl, ⟨by decide, by decide, by decide +kernel⟩, ?_, wiX1_tellLeastOrder, wvX1_tellLeastOrder, wIX1, wcX1_tellLeastOrder⟩
  rw [hM]; exact wmX11_336
theorem wfX11_77 : Cond.fieldLink RX11 77 "NoHedgeTwice" "ears" "LNoHedgeTwice$Ears;" ∈ sm_G := sm_t2 120 rfl rfl
theorem uX0 : ∀ w ∈ u_ws RX0 TX0 6, w ∈ sm_G := sm_pl (fun i _ h => lw_t2 i h) [67, 69, 71, 73, 75, 77] (by decide +kernel) (by decide +kernel)
theorem kX0 : sm_Cl 0 6 RX0 TX0 tyX0 := ⟨rfl, uX0, tyX0_ok, nmX0, by decide⟩
theorem wfX0_9 : Cond.fieldLink RX0 9 "NoHedgeTwice$Ears" "count" "I" ∈ sm_G := sm_t2 59 rfl rfl
theorem wfX0_22 : Cond.fieldLink RX0 22 "NoHedgeTwice$Ears" "hedge" "[I" ∈ sm_G := sm_t2 64 rfl rfl
theorem wfX0_26 : Cond.fieldLink RX0 26 "NoHedgeTwice$Ears" "cows" "[I" ∈ sm_G := sm_t2 65 rfl rfl
theorem wmX11_340 : Cond.methodLink RX11 340 yX0_hear ∈ sm_G := sm_t4 174 rfl rfl
theorem wiX0_hear : Cond.instanceMethod yX0_hear ∈ sm_G := sm_t4 175 rfl rfl
theorem wvX0_hear : Cond.selects RX0 yX0_hear yX0_hear ∈ sm_G := sm_t4 176 rfl rfl
theorem wIX0 : Cond.initialized RX0 ∈ sm_G := sm_t1 12 rfl rfl
theorem wcX0_hear : Cond.code mX0_hear.1 mX0_hear.2.1 mX0_hear.2.2.1 mX0_hear.2.2.2 ∈ sm_G := sm_t4 177 rfl rfl
theorem cvX11_340 {M : sm_M} (hM : M.1.cls = RX11) : sm_cV M mX0_hear 340 2 0 6 RX0 TX0 tyX0 := by
  refine ⟨kX0, rfl, ⟨by decide, by decide, by decide +kernel⟩, ?_, wiX0_hear, wvX0_hear, wIX0, wcX0_hear⟩
  rw [hM]; exact wmX11_340
theorem wfX11_343 : Cond.fieldLink RX11 343 "NoHedgeTwice$Ears" "count" "I" ∈ sm_G := sm_t2 60 rfl rfl
theorem wmX0_52 : Cond.methodLink RX0 52 yX0_all ∈ sm_G := sm_t4 190 rfl rfl
theorem wiX0_all : Cond.instanceMethod yX0_all ∈ sm_G := sm_t4 192 rfl rfl
theorem wvX0_all : Cond.selects RX0 yX0_all yX0_all ∈ sm_G := sm_t0 31 rfl rfl
theorem wcX0_all : Cond.code mX0_all.1 mX0_all.2.1 mX0_all.2.2.1 mX0_all.2.2.2 ∈ sm_G := sm_t4 193 rfl rfl
theorem cvX0_52 {M : sm_M} (hM : M.1.cls = RX0) : sm_cV M mX0_all 52 0 0 6 RX0 TX0 tyX0 := by
  refine ⟨kX0, rfl, ⟨by decide, by decide, by decide +kernel⟩, ?_, wiX0_all, wvX0_all, wIX0, wcX0_all⟩
  rw [hM]; exact wmX0_52
theorem wfX0_36 : Cond.fieldLink RX0 36 "NoHedgeTwice$Land" "left" "[I" ∈ sm_G := sm_t1 98 rfl rfl
theorem wmX0_32 : Cond.methodLink RX0 32 yX0_cowsIn ∈ sm_G := sm_t4 205 rfl rfl
theorem wsX0_cowsIn : Cond.static yX0_cowsIn ∈ sm_G := sm_t4 206 rfl rfl
theorem wcX0_cowsIn : Cond.code mX0_cowsIn.1 mX0_cowsIn.2.1 mX0_cowsIn.2.2.1 mX0_cowsIn.2.2.2 ∈ sm_G := sm_t4 207 rfl rfl
theorem csX0_32 {M : sm_M} (hM : M.1.cls = RX0) : sm_cS M mX0_cowsIn 32 2 := by
  refine ⟨⟨by decide, by decide, by decide +kernel⟩, ?_, wsX0_cowsIn, wIX0, wcX0_cowsIn⟩
  rw [hM]; exact wmX0_32
theorem wfX0_41 : Cond.fieldLink RX0 41 "NoHedgeTwice$Land" "right" "[I" ∈ sm_G := sm_t1 102 rfl rfl
theorem wmX0_44 : Cond.methodLink RX0 44 yX0_cowsOver ∈ sm_G := sm_t4 202 rfl rfl
theorem wsX0_cowsOver : Cond.static yX0_cowsOver ∈ sm_G := sm_t4 203 rfl rfl
theorem wcX0_cowsOver : Cond.code mX0_cowsOver.1 mX0_cowsOver.2.1 mX0_cowsOver.2.2.1 mX0_cowsOver.2.2.2 ∈ sm_G := sm_t4 204 rfl rfl
theorem csX0_44 {M : sm_M} (hM : M.1.cls = RX0) : sm_cS M mX0_cowsOver 44 3 := by
  refine ⟨⟨by decide, by decide, by decide +kernel⟩, ?_, wsX0_cowsOver, wIX0, wcX0_cowsOver⟩
  rw [hM]; exact wmX0_44
theorem wmX0_48 : Cond.methodLink RX0 48 yX0_isLie ∈ sm_G := sm_t4 198 rfl rfl
theorem wiX0_isLie : Cond.instanceMethod yX0_isLie ∈ sm_G := sm_t4 200 rfl rfl
theorem wvX0_isLie : Cond.selects RX0 yX0_isLie yX0_isLie ∈ sm_G := sm_t0 33 rfl rfl
theorem wcX0_isLie : Cond.code mX0_isLie.1 mX0_isLie.2.1 mX0_isLie.2.2.1 mX0_isLie.2.2.2 ∈ sm_G := sm_t4 201 rfl rfl
theorem cvX0_48 {M : sm_M} (hM : M.1.cls = RX0) : sm_cV M mX0_isLie 48 3 0 6 RX0 TX0 tyX0 := by
  refine ⟨kX0, rfl, ⟨by decide, by decide, by decide +kernel⟩, ?_, wiX0_isLie, wvX0_isLie, wIX0, wcX0_isLie⟩
  rw [hM]; exact wmX0_48
theorem wmX0_56 : Cond.methodLink RX0 56 yX0_allHold ∈ sm_G := sm_t4 194 rfl rfl
theorem wiX0_allHold : Cond.instanceMethod yX0_allHold ∈ sm_G := sm_t4 196 rfl rfl
theorem wvX0_allHold : Cond.selects RX0 yX0_allHold yX0_allHold ∈ sm_G := sm_t0 32 rfl rfl
theorem wcX0_allHold : Cond.code mX0_allHold.1 mX0_allHold.2.1 mX0_allHold.2.2.1 mX0_allHold.2.2.2 ∈ sm_G := sm_t4 197 rfl rfl
theorem cvX0_56 {M : sm_M} (hM : M.1.cls = RX0) : sm_cV M mX0_allHold 56 3 0 6 RX0 TX0 tyX0 := by
  refine ⟨kX0, rfl, ⟨by decide, by decide, by decide +kernel⟩, ?_, wiX0_allHold, wvX0_allHold, wIX0, wcX0_allHold⟩
  rw [hM]; exact wmX0_56
theorem wfX0_18 : Cond.fieldLink RX0 18 "NoHedgeTwice$Ears" "holding" "[J" ∈ sm_G := sm_t2 63 rfl rfl
theorem wfX0_15 : Cond.fieldLink RX0 15 "NoHedgeTwice$Ears" "leastWay" "I" ∈ sm_G := sm_t2 61 rfl rfl
theorem wmX11_344 : Cond.methodLink RX11 344 yX0_findWays ∈ sm_G := sm_t4 186 rfl rfl
theorem wiX0_findWays : Cond.instanceMethod yX0_findWays ∈ sm_G := sm_t4 187 rfl rfl
theorem wvX0_findWays : Cond.selects RX0 yX0_findWays yX0_findWays ∈ sm_G := sm_t4 188 rfl rfl
theorem wcX0_findWays : Cond.code mX0_findWays.1 mX0_findWays.2.1 mX0_findWays.2.2.1 mX0_findWays.2.2.2 ∈ sm_G := sm_t4 189 rfl rfl
theorem cvX11_344 {M : sm_M} (hM : M.1.cls = RX11) : sm_cV M mX0_findWays 344 1 0 6 RX0 TX0 tyX0 := by
  refine ⟨kX0, rfl, ⟨by decide, by decide, by decide +kernel⟩, ?_, wiX0_findWays, wvX0_findWays, wIX0, wcX0_findWays⟩
  rw [hM]; exact wmX11_344
theorem wmX11_347 : Cond.methodLink RX11 347 yX5_clear ∈ sm_G := sm_t4 208 rfl rfl
theorem cvX11_347 {M : sm_M} (hM : M.1.cls = RX11) : sm_cV M mX5_clear 347 0 5 2 RX5 TX5 tyX5 := by
  refine ⟨kX5, rfl, ⟨by decide, by decide, by decide +kernel⟩, ?_, wiX5_clear, wvX5_clear, wIX5, wcX5_clear⟩
  rw [hM]; exact wmX11_347
theorem wfX11_350 : Cond.fieldLink RX11 350 "NoHedgeTwice$Ears" "leastWay" "I" ∈ sm_G := sm_t2 62 rfl rfl
theorem wmX11_353 : Cond.methodLink RX11 353 yX0_asDigits ∈ sm_G := sm_t4 209 rfl rfl
theorem wsX0_asDigits : Cond.static yX0_asDigits ∈ sm_G := sm_t4 210 rfl rfl
theorem wcX0_asDigits : Cond.code mX0_asDigits.1 mX0_asDigits.2.1 mX0_asDigits.2.2.1 mX0_asDigits.2.2.2 ∈ sm_G := sm_t4 211 rfl rfl
theorem csX11_353 {M : sm_M} (hM : M.1.cls = RX11) : sm_cS M mX0_asDigits 353 1 := by
  refine ⟨⟨by decide, by decide, by decide +kernel⟩, ?_, wsX0_asDigits, wIX0, wcX0_asDigits⟩
  rw [hM]; exact wmX11_353
theorem wmX0_59 : Cond.methodLink RX0 59 yX0_isFound ∈ sm_G := sm_t4 220 rfl rfl
theorem wiX0_isFound : Cond.instanceMethod yX0_isFound ∈ sm_G := sm_t4 222 rfl rfl
theorem wvX0_isFound : Cond.selects RX0 yX0_isFound yX0_isFound ∈ sm_G := sm_t0 34 rfl rfl
theorem wcX0_isFound : Cond.code mX0_isFound.1 mX0_isFound.2.1 mX0_isFound.2.2.1 mX0_isFound.2.2.2 ∈ sm_G := sm_t4 223 rfl rfl
theorem cvX0_59 {M : sm_M} (hM : M.1.cls = RX0) : sm_cV M mX0_isFound 59 1 0 6 RX0 TX0 tyX0 := by
  refine ⟨kX0, rfl, ⟨by decide, by decide, by decide +kernel⟩, ?_, wiX0_isFound, wvX0_isFound, wIX0, wcX0_isFound⟩
  rw [hM]; exact wmX0_59
theorem wmX11_356 : Cond.methodLink RX11 356 yX0_differences ∈ sm_G := sm_t4 216 rfl rfl
theorem wiX0_differences : Cond.instanceMethod yX0_differences ∈ sm_G := sm_t4 217 rfl rfl
theorem wvX0_differences : Cond.selects RX0 yX0_differences yX0_differences ∈ sm_G := sm_t4 218 rfl rfl
theorem wcX0_differences : Cond.code mX0_differences.1 mX0_differences.2.1 mX0_differences.2.2.1 mX0_differences.2.2.2 ∈ sm_G := sm_t4 219 rfl rfl
theorem cvX11_356 {M : sm_M} (hM : M.1.cls = RX11) : sm_cV M mX0_differences 356 0 0 6 RX0 TX0 tyX0 := by
  refine ⟨kX0, rfl, ⟨by decide, by decide, by decide +kernel⟩, ?_, wiX0_differences, wvX0_differences, wIX0, wcX0_differences⟩
  rw [hM]; exact wmX11_356
theorem wmX11_359 : Cond.methodLink RX11 359 yX0_cowsIn ∈ sm_G := sm_t4 224 rfl rfl
theorem csX11_359 {M : sm_M} (hM : M.1.cls = RX11) : sm_cS M mX0_cowsIn 359 2 := by
  refine ⟨⟨by decide, by decide, by decide +kernel⟩, ?_, wsX0_cowsIn, wIX0, wcX0_cowsIn⟩
  rw [hM]; exact wmX11_359
theorem wfX0_29 : Cond.fieldLink RX0 29 "NoHedgeTwice$Ears" "tally" "[I" ∈ sm_G := sm_t2 66 rfl rfl
theorem wmX0_63 : Cond.methodLink RX0 63 Lib.Math.max.name ∈ sm_G := sm_t4 233 rfl rfl
theorem wmX11_362 : Cond.methodLink RX11 362 yX0_mostLeft ∈ sm_G := sm_t4 229 rfl rfl
theorem wiX0_mostLeft : Cond.instanceMethod yX0_mostLeft ∈ sm_G := sm_t4 230 rfl rfl
theorem wvX0_mostLeft : Cond.selects RX0 yX0_mostLeft yX0_mostLeft ∈ sm_G := sm_t4 231 rfl rfl
theorem wcX0_mostLeft : Cond.code mX0_mostLeft.1 mX0_mostLeft.2.1 mX0_mostLeft.2.2.1 mX0_mostLeft.2.2.2 ∈ sm_G := sm_t4 232 rfl rfl
theorem cvX11_362 {M : sm_M} (hM : M.1.cls = RX11) : sm_cV M mX0_mostLeft 362 2 0 6 RX0 TX0 tyX0 := by
  refine ⟨kX0, rfl, ⟨by decide, by decide, by decide +kernel⟩, ?_, wiX0_mostLeft, wvX0_mostLeft, wIX0, wcX0_mostLeft⟩
  rw [hM]; exact wmX11_362
theorem wmX0_68 : Cond.methodLink RX0 68 yX0_liesOf ∈ sm_G := sm_t5 2 rfl rfl
theorem wiX0_liesOf : Cond.instanceMethod yX0_liesOf ∈ sm_G := sm_t5 4 rfl rfl
theorem wvX0_liesOf : Cond.selects RX0 yX0_liesOf yX0_liesOf ∈ sm_G := sm_t0 35 rfl rfl
theorem wcX0_liesOf : Cond.code mX0_liesOf.1 mX0_liesOf.2.1 mX0_liesOf.2.2.1 mX0_liesOf.2.2.2 ∈ sm_G := sm_t5 5 rfl rfl
theorem cvX0_68 {M : sm_M} (hM : M.1.cls = RX0) : sm_cV M mX0_liesOf 68 2 0 6 RX0 TX0 tyX0 := by
  refine ⟨kX0, rfl, ⟨by decide, by decide, by decide +kernel⟩, ?_, wiX0_liesOf, wvX0_liesOf, wIX0, wcX0_liesOf⟩
  rw [hM]; exact wmX0_68
theorem wmX0_72 : Cond.methodLink RX0 72 yJ6_bitCount_0f7a4 ∈ sm_G := sm_t5 6 rfl rfl
theorem csX0_72 {M : sm_M} (hM : M.1.cls = RX0) : sm_cS M mJ6_bitCount_0f7a4 72 1 := by
  refine ⟨⟨by decide, by decide, by decide +kernel⟩, ?_, wsJ6_bitCount_0f7a4, wIJ6, wcJ6_bitCount_0f7a4⟩
  rw [hM]; exact wmX0_72
theorem wmX11_365 : Cond.methodLink RX11 365 yX0_fewestLies ∈ sm_G := sm_t4 238 rfl rfl
theorem wiX0_fewestLies : Cond.instanceMethod yX0_fewestLies ∈ sm_G := sm_t4 239 rfl rfl
theorem wvX0_fewestLies : Cond.selects RX0 yX0_fewestLies yX0_fewestLies ∈ sm_G := sm_t5 0 rfl rfl
theorem wcX0_fewestLies : Cond.code mX0_fewestLies.1 mX0_fewestLies.2.1 mX0_fewestLies.2.2.1 mX0_fewestLies.2.2.2 ∈ sm_G := sm_t5 1 rfl rfl
theorem cvX11_365 {M : sm_M} (hM : M.1.cls = RX11) : sm_cV M mX0_fewestLies 365 1 0 6 RX0 TX0 tyX0 := by
  refine ⟨kX0, rfl, ⟨by decide, by decide, by decide +kernel⟩, ?_, wiX0_fewestLies, wvX0_fewestLies, wIX0, wcX0_fewestLies⟩
  rw [hM]; exact wmX11_365
theorem wmX0_78 : Cond.methodLink RX0 78 yX0_hasWay ∈ sm_G := sm_t5 15 rfl rfl
theorem wiX0_hasWay : Cond.instanceMethod yX0_hasWay ∈ sm_G := sm_t5 17 rfl rfl
theorem wvX0_hasWay : Cond.selects RX0 yX0_hasWay yX0_hasWay ∈ sm_G := sm_t0 36 rfl rfl
theorem wcX0_hasWay : Cond.code mX0_hasWay.1 mX0_hasWay.2.1 mX0_hasWay.2.2.1 mX0_hasWay.2.2.2 ∈ sm_G := sm_t5 18 rfl rfl
theorem cvX0_78 {M : sm_M} (hM : M.1.cls = RX0) : sm_cV M mX0_hasWay 78 2 0 6 RX0 TX0 tyX0 := by
  refine ⟨kX0, rfl, ⟨by decide, by decide, by decide +kernel⟩, ?_, wiX0_hasWay, wvX0_hasWay, wIX0, wcX0_hasWay⟩
  rw [hM]; exact wmX0_78
theorem wmX11_368 : Cond.methodLink RX11 368 yX0_firstWithoutWays ∈ sm_G := sm_t5 11 rfl rfl
theorem wiX0_firstWithoutWays : Cond.instanceMethod yX0_firstWithoutWays ∈ sm_G := sm_t5 12 rfl rfl
theorem wvX0_firstWithoutWays : Cond.selects RX0 yX0_firstWithoutWays yX0_firstWithoutWays ∈ sm_G := sm_t5 13 rfl rfl
theorem wcX0_firstWithoutWays : Cond.code mX0_firstWithoutWays.1 mX0_firstWithoutWays.2.1 mX0_firstWithoutWays.2.2.1 mX0_firstWithoutWays.2.2.2 ∈ sm_G := sm_t5 14 rfl rfl
theorem cvX11_368 {M : sm_M} (hM : M.1.cls = RX11) : sm_cV M mX0_firstWithoutWays 368 1 0 6 RX0 TX0 tyX0 := by
  refine ⟨kX0, rfl, ⟨by decide, by decide, by decide +kernel⟩, ?_, wiX0_firstWithoutWays, wvX0_firstWithoutWays, wIX0, wcX0_firstWithoutWays⟩
  rw [hM]; exact wmX11_368
theorem wmX11_371 : Cond.methodLink RX11 371 yX0_firstAgainst ∈ sm_G := sm_t5 19 rfl rfl
theorem wiX0_firstAgainst : Cond.instanceMethod yX0_firstAgainst ∈ sm_G := sm_t5 20 rfl rfl
theorem wvX0_firstAgainst : Cond.selects RX0 yX0_firstAgainst yX0_firstAgainst ∈ sm_G := sm_t5 21 rfl rfl
theorem wcX0_firstAgainst : Cond.code mX0_firstAgainst.1 mX0_firstAgainst.2.1 mX0_firstAgainst.2.2.1 mX0_firstAgainst.2.2.2 ∈ sm_G := sm_t5 22 rfl rfl
theorem cvX11_371 {M : sm_M} (hM : M.1.cls = RX11) : sm_cV M mX0_firstAgainst 371 2 0 6 RX0 TX0 tyX0 := by
  refine ⟨kX0, rfl, ⟨by decide, by decide, by decide +kernel⟩, ?_, wiX0_firstAgainst, wvX0_firstAgainst, wIX0, wcX0_firstAgainst⟩
  rw [hM]; exact wmX11_371
theorem wfX11_81 : Cond.fieldLink RX11 81 "NoHedgeTwice" "kept" "[LNoHedgeTwice$Spot;" ∈ sm_G := sm_t2 121 rfl rfl
theorem wfX11_85 : Cond.fieldLink RX11 85 "NoHedgeTwice" "isKept" "[Z" ∈ sm_G := sm_t2 122 rfl rfl
theorem wfX11_374 : Cond.fieldLink RX11 374 "NoHedgeTwice$Row" "count" "I" ∈ sm_G := sm_t1 158 rfl rfl
theorem wfX11_377 : Cond.fieldLink RX11 377 "NoHedgeTwice$Row" "numbers" "[I" ∈ sm_G := sm_t1 156 rfl rfl
theorem uX12 : ∀ w ∈ u_ws RX12 TX12 57, w ∈ sm_G := sm_pl (fun i _ h => lw_t7 i h) [120, 122, 124, 126, 128, 130, 132, 134, 136, 138, 140, 142, 144, 146, 148, 150, 152, 154, 156, 158, 160, 162, 164, 166, 168, 170, 172, 174, 176, 178, 180, 182, 184, 186, 188, 190, 192, 194, 196, 198, 200, 202, 204, 206, 208, 210, 212, 214, 216, 218, 220, 222, 224, 226, 228, 230, 232] (by decide +kernel) (by decide +kernel)
theorem kX12 : sm_Cl 12 57 RX12 TX12 tyX12 := ⟨rfl, uX12, tyX12_ok, nmX12, by decide⟩
theorem wfX12_3 : Cond.fieldLink RX12 3 "NoHedgeTwiceModel" "thrown" "I" ∈ sm_G := sm_t7 63 rfl rfl
theorem wfX12_24 : Cond.fieldLink RX12 24 "NoHedgeTwiceModel" "taped" "I" ∈ sm_G := sm_t7 84 rfl rfl
theorem wfX12_27 : Cond.fieldLink RX12 27 "NoHedgeTwiceModel" "tape" "[I" ∈ sm_G := sm_t7 83 rfl rfl
theorem wmX12_17 : Cond.methodLink RX12 17 yX12_in ∈ sm_G := sm_t5 134 rfl rfl
theorem wsX12_in : Cond.static yX12_in ∈ sm_G := sm_t5 135 rfl rfl
theorem wIX12 : Cond.initialized RX12 ∈ sm_G := sm_t1 14 rfl rfl
theorem wcX12_in : Cond.code mX12_in.1 mX12_in.2.1 mX12_in.2.2.1 mX12_in.2.2.2 ∈ sm_G := sm_t5 136 rfl rfl
theorem csX12_17 {M : sm_M} (hM : M.1.cls = RX12) : sm_cS M mX12_in 17 3 := by
  refine ⟨⟨by decide, by decide, by decide +kernel⟩, ?_, wsX12_in, wIX12, wcX12_in⟩
  rw [hM]; exact wmX12_17
theorem wfX12_30 : Cond.fieldLink RX12 30 "NoHedgeTwiceModel" "at" "I" ∈ sm_G := sm_t7 85 rfl rfl
theorem wmX12_33 : Cond.methodLink RX12 33 Lib.Math.min.name ∈ sm_G := sm_t5 146 rfl rfl
theorem wfX12_39 : Cond.fieldLink RX12 39 "NoHedgeTwiceModel" "to" "I" ∈ sm_G := sm_t7 86 rfl rfl
theorem wmX12_107 : Cond.methodLink RX12 107 yX12_begins ∈ sm_G := sm_t5 141 rfl rfl
theorem wiX12_begins : Cond.instanceMethod yX12_begins ∈ sm_G := sm_t5 143 rfl rfl
theorem wvX12_begins : Cond.selects RX12 yX12_begins yX12_begins ∈ sm_G := sm_t0 38 rfl rfl
theorem wcX12_begins : Cond.code mX12_begins.1 mX12_begins.2.1 mX12_begins.2.2.1 mX12_begins.2.2.2 ∈ sm_G := sm_t5 145 rfl rfl
theorem cvX12_107 {M : sm_M} (hM : M.1.cls = RX12) : sm_cV M mX12_begins 107 1 12 57 RX12 TX12 tyX12 := by
  refine ⟨kX12, rfl, ⟨by decide, by decide, by decide +kernel⟩, ?_, wiX12_begins, wvX12_begins, wIX12, wcX12_begins⟩
  rw [hM]; exact wmX12_107
theorem wfX12_14 : Cond.fieldLink RX12 14 "NoHedgeTwiceModel" "corners" "I" ∈ sm_G := sm_t7 66 rfl rfl
theorem wfX12_58 : Cond.fieldLink RX12 58 "NoHedgeTwiceModel" "readCorners" "I" ∈ sm_G := sm_t7 87 rfl rfl
theorem wfX12_21 : Cond.fieldLink RX12 21 "NoHedgeTwiceModel" "hedges" "I" ∈ sm_G := sm_t7 69 rfl rfl
theorem wfX12_71 : Cond.fieldLink RX12 71 "NoHedgeTwiceModel" "readHedges" "I" ∈ sm_G := sm_t7 88 rfl rfl
theorem wfX12_101 : Cond.fieldLink RX12 101 "NoHedgeTwiceModel" "readGates" "I" ∈ sm_G := sm_t7 89 rfl rfl
theorem wmX12_119 : Cond.methodLink RX12 119 yX12_faultOf ∈ sm_G := sm_t5 184 rfl rfl
theorem wiX12_faultOf : Cond.instanceMethod yX12_faultOf ∈ sm_G := sm_t5 186 rfl rfl
theorem wvX12_faultOf : Cond.selects RX12 yX12_faultOf yX12_faultOf ∈ sm_G := sm_t0 47 rfl rfl
theorem wcX12_faultOf : Cond.code mX12_faultOf.1 mX12_faultOf.2.1 mX12_faultOf.2.2.1 mX12_faultOf.2.2.2 ∈ sm_G := sm_t5 187 rfl rfl
theorem cvX12_119 {M : sm_M} (hM : M.1.cls = RX12) : sm_cV M mX12_faultOf 119 3 12 57 RX12 TX12 tyX12 := by
  refine ⟨kX12, rfl, ⟨by decide, by decide, by decide +kernel⟩, ?_, wiX12_faultOf, wvX12_faultOf, wIX12, wcX12_faultOf⟩
  rw [hM]; exact wmX12_119
theorem wfX12_123 : Cond.fieldLink RX12 123 "NoHedgeTwiceModel" "gates" "I" ∈ sm_G := sm_t7 77 rfl rfl
theorem wfX12_126 : Cond.fieldLink RX12 126 "NoHedgeTwiceModel" "undos" "I" ∈ sm_G := sm_t7 90 rfl rfl
theorem wmX12_110 : Cond.methodLink RX12 110 yX12_isAt ∈ sm_G := sm_t5 147 rfl rfl
theorem wiX12_isAt : Cond.instanceMethod yX12_isAt ∈ sm_G := sm_t5 149 rfl rfl
theorem wvX12_isAt : Cond.selects RX12 yX12_isAt yX12_isAt ∈ sm_G := sm_t0 39 rfl rfl
theorem wcX12_isAt : Cond.code mX12_isAt.1 mX12_isAt.2.1 mX12_isAt.2.2.1 mX12_isAt.2.2.2 ∈ sm_G := sm_t5 150 rfl rfl
theorem cvX12_110 {M : sm_M} (hM : M.1.cls = RX12) : sm_cV M mX12_isAt 110 1 12 57 RX12 TX12 tyX12 := by
  refine ⟨kX12, rfl, ⟨by decide, by decide, by decide +kernel⟩, ?_, wiX12_isAt, wvX12_isAt, wIX12, wcX12_isAt⟩
  rw [hM]; exact wmX12_110
theorem wfX12_74 : Cond.fieldLink RX12 74 "NoHedgeTwiceModel" "one" "[I" ∈ sm_G := sm_t7 70 rfl rfl
theorem wmX12_77 : Cond.methodLink RX12 77 yX12_cornerBut ∈ sm_G := sm_t5 176 rfl rfl
theorem wiX12_cornerBut : Cond.instanceMethod yX12_cornerBut ∈ sm_G := sm_t5 178 rfl rfl
theorem wvX12_cornerBut : Cond.selects RX12 yX12_cornerBut yX12_cornerBut ∈ sm_G := sm_t0 45 rfl rfl
theorem wcX12_cornerBut : Cond.code mX12_cornerBut.1 mX12_cornerBut.2.1 mX12_cornerBut.2.2.1 mX12_cornerBut.2.2.2 ∈ sm_G := sm_t5 179 rfl rfl
theorem cvX12_77 {M : sm_M} (hM : M.1.cls = RX12) : sm_cV M mX12_cornerBut 77 1 12 57 RX12 TX12 tyX12 := by
  refine ⟨kX12, rfl, ⟨by decide, by decide, by decide +kernel⟩, ?_, wiX12_cornerBut, wvX12_cornerBut, wIX12, wcX12_cornerBut⟩
  rw [hM]; exact wmX12_77
theorem wfX12_80 : Cond.fieldLink RX12 80 "NoHedgeTwiceModel" "other" "[I" ∈ sm_G := sm_t7 71 rfl rfl
theorem wfX12_83 : Cond.fieldLink RX12 83 "NoHedgeTwiceModel" "lengths" "[I" ∈ sm_G := sm_t7 72 rfl rfl
theorem wlX12_46 : Cond.constantLong RX12 46 (48 : Int64) ∈ sm_G := sm_t5 170 rfl rfl
theorem wlX12_48 : Cond.constantLong RX12 48 (57 : Int64) ∈ sm_G := sm_t5 171 rfl rfl
theorem wmX12_50 : Cond.methodLink RX12 50 yX12_isDigit ∈ sm_G := sm_t5 166 rfl rfl
theorem wiX12_isDigit : Cond.instanceMethod yX12_isDigit ∈ sm_G := sm_t5 168 rfl rfl
theorem wvX12_isDigit : Cond.selects RX12 yX12_isDigit yX12_isDigit ∈ sm_G := sm_t0 43 rfl rfl
theorem wcX12_isDigit : Cond.code mX12_isDigit.1 mX12_isDigit.2.1 mX12_isDigit.2.2.1 mX12_isDigit.2.2.2 ∈ sm_G := sm_t5 169 rfl rfl
theorem cvX12_50 {M : sm_M} (hM : M.1.cls = RX12) : sm_cV M mX12_isDigit 50 0 12 57 RX12 TX12 tyX12 := by
  refine ⟨kX12, rfl, ⟨by decide, by decide, by decide +kernel⟩, ?_, wiX12_isDigit, wvX12_isDigit, wIX12, wcX12_isDigit⟩
  rw [hM]; exact wmX12_50
theorem wmX12_54 : Cond.methodLink RX12 54 yX12_digit ∈ sm_G := sm_t5 162 rfl rfl
theorem wiX12_digit : Cond.instanceMethod yX12_digit ∈ sm_G := sm_t5 164 rfl rfl
theorem wvX12_digit : Cond.selects RX12 yX12_digit yX12_digit ∈ sm_G := sm_t0 42 rfl rfl
theorem wcX12_digit : Cond.code mX12_digit.1 mX12_digit.2.1 mX12_digit.2.2.1 mX12_digit.2.2.2 ∈ sm_G := sm_t5 165 rfl rfl
theorem cvX12_54 {M : sm_M} (hM : M.1.cls = RX12) : sm_cV M mX12_digit 54 1 12 57 RX12 TX12 tyX12 := by
  refine ⟨kX12, rfl, ⟨by decide, by decide, by decide +kernel⟩, ?_, wiX12_digit, wvX12_digit, wIX12, wcX12_digit⟩
  rw [hM]; exact wmX12_54
theorem wmX12_86 : Cond.methodLink RX12 86 yX12_number ∈ sm_G := sm_t5 180 rfl rfl
theorem wiX12_number : Cond.instanceMethod yX12_number ∈ sm_G := sm_t5 182 rfl rfl
theorem wvX12_number : Cond.selects RX12 yX12_number yX12_number ∈ sm_G := sm_t0 46 rfl rfl
theorem wcX12_number : Cond.code mX12_number.1 mX12_number.2.1 mX12_number.2.2.1 mX12_number.2.2.2 ∈ sm_G := sm_t5 183 rfl rfl
theorem cvX12_86 {M : sm_M} (hM : M.1.cls = RX12) : sm_cV M mX12_number 86 2 12 57 RX12 TX12 tyX12 := by
  refine ⟨kX12, rfl, ⟨by decide, by decide, by decide +kernel⟩, ?_, wiX12_number, wvX12_number, wIX12, wcX12_number⟩
  rw [hM]; exact wmX12_86
theorem wmX12_42 : Cond.methodLink RX12 42 yX12_flag ∈ sm_G := sm_t5 159 rfl rfl
theorem wsX12_flag : Cond.static yX12_flag ∈ sm_G := sm_t5 160 rfl rfl
theorem wcX12_flag : Cond.code mX12_flag.1 mX12_flag.2.1 mX12_flag.2.2.1 mX12_flag.2.2.2 ∈ sm_G := sm_t5 161 rfl rfl
theorem csX12_42 {M : sm_M} (hM : M.1.cls = RX12) : sm_cS M mX12_flag 42 1 := by
  refine ⟨⟨by decide, by decide, by decide +kernel⟩, ?_, wsX12_flag, wIX12, wcX12_flag⟩
  rw [hM]; exact wmX12_42
theorem wmX12_61 : Cond.methodLink RX12 61 yX12_takes ∈ sm_G := sm_t5 155 rfl rfl
theorem wiX12_takes : Cond.instanceMethod yX12_takes ∈ sm_G := sm_t5 157 rfl rfl
theorem wvX12_takes : Cond.selects RX12 yX12_takes yX12_takes ∈ sm_G := sm_t0 41 rfl rfl
theorem wcX12_takes : Cond.code mX12_takes.1 mX12_takes.2.1 mX12_takes.2.2.1 mX12_takes.2.2.2 ∈ sm_G := sm_t5 158 rfl rfl
theorem cvX12_61 {M : sm_M} (hM : M.1.cls = RX12) : sm_cV M mX12_takes 61 1 12 57 RX12 TX12 tyX12 := by
  refine ⟨kX12, rfl, ⟨by decide, by decide, by decide +kernel⟩, ?_, wiX12_takes, wvX12_takes, wIX12, wcX12_takes⟩
  rw [hM]; exact wmX12_61
theorem wfX12_89 : Cond.fieldLink RX12 89 "NoHedgeTwiceModel" "left" "[I" ∈ sm_G := sm_t7 73 rfl rfl
theorem wfX12_92 : Cond.fieldLink RX12 92 "NoHedgeTwiceModel" "right" "[I" ∈ sm_G := sm_t7 74 rfl rfl
theorem wfX12_95 : Cond.fieldLink RX12 95 "NoHedgeTwiceModel" "worth" "[I" ∈ sm_G := sm_t7 75 rfl rfl
theorem wfX12_98 : Cond.fieldLink RX12 98 "NoHedgeTwiceModel" "wind" "[I" ∈ sm_G := sm_t7 76 rfl rfl
theorem wfX12_104 : Cond.fieldLink RX12 104 "NoHedgeTwiceModel" "last" "[I" ∈ sm_G := sm_t7 82 rfl rfl
theorem wmX12_116 : Cond.methodLink RX12 116 yX12_readsHedge ∈ sm_G := sm_t5 172 rfl rfl
theorem wiX12_readsHedge : Cond.instanceMethod yX12_readsHedge ∈ sm_G := sm_t5 174 rfl rfl
theorem wvX12_readsHedge : Cond.selects RX12 yX12_readsHedge yX12_readsHedge ∈ sm_G := sm_t0 44 rfl rfl
theorem wcX12_readsHedge : Cond.code mX12_readsHedge.1 mX12_readsHedge.2.1 mX12_readsHedge.2.2.1 mX12_readsHedge.2.2.2 ∈ sm_G := sm_t5 175 rfl rfl
theorem cvX12_116 {M : sm_M} (hM : M.1.cls = RX12) : sm_cV M mX12_readsHedge 116 0 12 57 RX12 TX12 tyX12 := by
  refine ⟨kX12, rfl, ⟨by decide, by decide, by decide +kernel⟩, ?_, wiX12_readsHedge, wvX12_readsHedge, wIX12, wcX12_readsHedge⟩
  rw [hM]; exact wmX12_116
theorem wfX12_65 : Cond.fieldLink RX12 65 "NoHedgeTwiceModel" "x" "[I" ∈ sm_G := sm_t7 67 rfl rfl
theorem wfX12_68 : Cond.fieldLink RX12 68 "NoHedgeTwiceModel" "y" "[I" ∈ sm_G := sm_t7 68 rfl rfl
theorem wmX12_113 : Cond.methodLink RX12 113 yX12_readsCorner ∈ sm_G := sm_t5 151 rfl rfl
theorem wiX12_readsCorner : Cond.instanceMethod yX12_readsCorner ∈ sm_G := sm_t5 153 rfl rfl
theorem wvX12_readsCorner : Cond.selects RX12 yX12_readsCorner yX12_readsCorner ∈ sm_G := sm_t0 40 rfl rfl
theorem wcX12_readsCorner : Cond.code mX12_readsCorner.1 mX12_readsCorner.2.1 mX12_readsCorner.2.2.1 mX12_readsCorner.2.2.2 ∈ sm_G := sm_t5 154 rfl rfl
theorem cvX12_113 {M : sm_M} (hM : M.1.cls = RX12) : sm_cV M mX12_readsCorner 113 0 12 57 RX12 TX12 tyX12 := by
  refine ⟨kX12, rfl, ⟨by decide, by decide, by decide +kernel⟩, ?_, wiX12_readsCorner, wvX12_readsCorner, wIX12, wcX12_readsCorner⟩
  rw [hM]; exact wmX12_113
theorem wmX12_135 : Cond.methodLink RX12 135 yX12_isHedge ∈ sm_G := sm_t5 192 rfl rfl
theorem wiX12_isHedge : Cond.instanceMethod yX12_isHedge ∈ sm_G := sm_t5 194 rfl rfl
theorem wvX12_isHedge : Cond.selects RX12 yX12_isHedge yX12_isHedge ∈ sm_G := sm_t0 48 rfl rfl
theorem wcX12_isHedge : Cond.code mX12_isHedge.1 mX12_isHedge.2.1 mX12_isHedge.2.2.1 mX12_isHedge.2.2.2 ∈ sm_G := sm_t5 195 rfl rfl
theorem cvX12_135 {M : sm_M} (hM : M.1.cls = RX12) : sm_cV M mX12_isHedge 135 1 12 57 RX12 TX12 tyX12 := by
  refine ⟨kX12, rfl, ⟨by decide, by decide, by decide +kernel⟩, ?_, wiX12_isHedge, wvX12_isHedge, wIX12, wcX12_isHedge⟩
  rw [hM]; exact wmX12_135
theorem wmX12_140 : Cond.methodLink RX12 140 yX12_refuse ∈ sm_G := sm_t5 197 rfl rfl
theorem wiX12_refuse : Cond.instanceMethod yX12_refuse ∈ sm_G := sm_t5 199 rfl rfl
theorem wvX12_refuse : Cond.selects RX12 yX12_refuse yX12_refuse ∈ sm_G := sm_t0 49 rfl rfl
theorem wcX12_refuse : Cond.code mX12_refuse.1 mX12_refuse.2.1 mX12_refuse.2.2.1 mX12_refuse.2.2.2 ∈ sm_G := sm_t5 200 rfl rfl
theorem cvX12_140 {M : sm_M} (hM : M.1.cls = RX12) : sm_cV M mX12_refuse 140 0 12 57 RX12 TX12 tyX12 := by
  refine ⟨kX12, rfl, ⟨by decide, by decide, by decide +kernel⟩, ?_, wiX12_refuse, wvX12_refuse, wIX12, wcX12_refuse⟩
  rw [hM]; exact wmX12_140
theorem wlX12_138 : Cond.constantLong RX12 138 (8 : Int64) ∈ sm_G := sm_t5 196 rfl rfl
theorem wmX12_144 : Cond.methodLink RX12 144 yX12_has ∈ sm_G := sm_t5 201 rfl rfl
theorem wsX12_has : Cond.static yX12_has ∈ sm_G := sm_t5 202 rfl rfl
theorem wcX12_has : Cond.code mX12_has.1 mX12_has.2.1 mX12_has.2.2.1 mX12_has.2.2.2 ∈ sm_G := sm_t5 203 rfl rfl
theorem csX12_144 {M : sm_M} (hM : M.1.cls = RX12) : sm_cS M mX12_has 144 2 := by
  refine ⟨⟨by decide, by decide, by decide +kernel⟩, ?_, wsX12_has, wIX12, wcX12_has⟩
  rw [hM]; exact wmX12_144
theorem wfX12_148 : Cond.fieldLink RX12 148 "NoHedgeTwiceModel" "time" "I" ∈ sm_G := sm_t7 81 rfl rfl
theorem wmX12_129 : Cond.methodLink RX12 129 yX12_dayOf ∈ sm_G := sm_t5 208 rfl rfl
theorem wsX12_dayOf : Cond.static yX12_dayOf ∈ sm_G := sm_t5 209 rfl rfl
theorem wcX12_dayOf : Cond.code mX12_dayOf.1 mX12_dayOf.2.1 mX12_dayOf.2.2.1 mX12_dayOf.2.2.2 ∈ sm_G := sm_t5 210 rfl rfl
theorem csX12_129 {M : sm_M} (hM : M.1.cls = RX12) : sm_cS M mX12_dayOf 129 1 := by
  refine ⟨⟨by decide, by decide, by decide +kernel⟩, ?_, wsX12_dayOf, wIX12, wcX12_dayOf⟩
  rw [hM]; exact wmX12_129
theorem wfX12_132 : Cond.fieldLink RX12 132 "NoHedgeTwiceModel" "nights" "I" ∈ sm_G := sm_t7 78 rfl rfl
theorem wmX12_151 : Cond.methodLink RX12 151 yX12_isFresh ∈ sm_G := sm_t5 204 rfl rfl
theorem wiX12_isFresh : Cond.instanceMethod yX12_isFresh ∈ sm_G := sm_t5 206 rfl rfl
theorem wvX12_isFresh : Cond.selects RX12 yX12_isFresh yX12_isFresh ∈ sm_G := sm_t0 50 rfl rfl
theorem wcX12_isFresh : Cond.code mX12_isFresh.1 mX12_isFresh.2.1 mX12_isFresh.2.2.1 mX12_isFresh.2.2.2 ∈ sm_G := sm_t5 207 rfl rfl
theorem cvX12_151 {M : sm_M} (hM : M.1.cls = RX12) : sm_cV M mX12_isFresh 151 2 12 57 RX12 TX12 tyX12 := by
  refine ⟨kX12, rfl, ⟨by decide, by decide, by decide +kernel⟩, ?_, wiX12_isFresh, wvX12_isFresh, wIX12, wcX12_isFresh⟩
  rw [hM]; exact wmX12_151
theorem wmX12_157 : Cond.methodLink RX12 157 yX12_isCorner ∈ sm_G := sm_t5 215 rfl rfl
theorem wiX12_isCorner : Cond.instanceMethod yX12_isCorner ∈ sm_G := sm_t5 217 rfl rfl
theorem wvX12_isCorner : Cond.selects RX12 yX12_isCorner yX12_isCorner ∈ sm_G := sm_t0 51 rfl rfl
theorem wcX12_isCorner : Cond.code mX12_isCorner.1 mX12_isCorner.2.1 mX12_isCorner.2.2.1 mX12_isCorner.2.2.2 ∈ sm_G := sm_t5 218 rfl rfl
theorem cvX12_157 {M : sm_M} (hM : M.1.cls = RX12) : sm_cV M mX12_isCorner 157 1 12 57 RX12 TX12 tyX12 := by
  refine ⟨kX12, rfl, ⟨by decide, by decide, by decide +kernel⟩, ?_, wiX12_isCorner, wvX12_isCorner, wIX12, wcX12_isCorner⟩
  rw [hM]; exact wmX12_157
theorem wmX12_154 : Cond.methodLink RX12 154 Lib.Math.abs.name ∈ sm_G := sm_t5 223 rfl rfl
theorem wmX12_160 : Cond.methodLink RX12 160 yX12_grassOf ∈ sm_G := sm_t5 219 rfl rfl
theorem wiX12_grassOf : Cond.instanceMethod yX12_grassOf ∈ sm_G := sm_t5 221 rfl rfl
theorem wvX12_grassOf : Cond.selects RX12 yX12_grassOf yX12_grassOf ∈ sm_G := sm_t0 52 rfl rfl
theorem wcX12_grassOf : Cond.code mX12_grassOf.1 mX12_grassOf.2.1 mX12_grassOf.2.2.1 mX12_grassOf.2.2.2 ∈ sm_G := sm_t5 222 rfl rfl
theorem cvX12_160 {M : sm_M} (hM : M.1.cls = RX12) : sm_cV M mX12_grassOf 160 2 12 57 RX12 TX12 tyX12 := by
  refine ⟨kX12, rfl, ⟨by decide, by decide, by decide +kernel⟩, ?_, wiX12_grassOf, wvX12_grassOf, wIX12, wcX12_grassOf⟩
  rw [hM]; exact wmX12_160
theorem wlX12_167 : Cond.constantLong RX12 167 (9999 : Int64) ∈ sm_G := sm_t5 230 rfl rfl
theorem wfX12_169 : Cond.fieldLink RX12 169 "NoHedgeTwiceModel" "frost" "I" ∈ sm_G := sm_t7 79 rfl rfl
theorem wlX12_165 : Cond.constantLong RX12 165 (99 : Int64) ∈ sm_G := sm_t5 229 rfl rfl
theorem wlX12_163 : Cond.constantLong RX12 163 (9 : Int64) ∈ sm_G := sm_t5 228 rfl rfl
theorem wlX12_172 : Cond.constantLong RX12 172 (3 : Int64) ∈ sm_G := sm_t5 235 rfl rfl
theorem wmX12_174 : Cond.methodLink RX12 174 Lib.Math.max.name ∈ sm_G := sm_t5 236 rfl rfl
theorem wfX12_177 : Cond.fieldLink RX12 177 "NoHedgeTwiceModel" "here" "I" ∈ sm_G := sm_t7 80 rfl rfl
theorem wmX12_180 : Cond.methodLink RX12 180 yX12_isEnd ∈ sm_G := sm_t6 5 rfl rfl
theorem wiX12_isEnd : Cond.instanceMethod yX12_isEnd ∈ sm_G := sm_t6 7 rfl rfl
theorem wvX12_isEnd : Cond.selects RX12 yX12_isEnd yX12_isEnd ∈ sm_G := sm_t0 54 rfl rfl
theorem wcX12_isEnd : Cond.code mX12_isEnd.1 mX12_isEnd.2.1 mX12_isEnd.2.2.1 mX12_isEnd.2.2.2 ∈ sm_G := sm_t6 8 rfl rfl
theorem cvX12_180 {M : sm_M} (hM : M.1.cls = RX12) : sm_cV M mX12_isEnd 180 2 12 57 RX12 TX12 tyX12 := by
  refine ⟨kX12, rfl, ⟨by decide, by decide, by decide +kernel⟩, ?_, wiX12_isEnd, wvX12_isEnd, wIX12, wcX12_isEnd⟩
  rw [hM]; exact wmX12_180
theorem wmX12_186 : Cond.methodLink RX12 186 yX12_minutesFrom ∈ sm_G := sm_t6 12 rfl rfl
theorem wiX12_minutesFrom : Cond.instanceMethod yX12_minutesFrom ∈ sm_G := sm_t6 14 rfl rfl
theorem wvX12_minutesFrom : Cond.selects RX12 yX12_minutesFrom yX12_minutesFrom ∈ sm_G := sm_t0 55 rfl rfl
theorem wcX12_minutesFrom : Cond.code mX12_minutesFrom.1 mX12_minutesFrom.2.1 mX12_minutesFrom.2.2.1 mX12_minutesFrom.2.2.2 ∈ sm_G := sm_t6 15 rfl rfl
theorem cvX12_186 {M : sm_M} (hM : M.1.cls = RX12) : sm_cV M mX12_minutesFrom 186 2 12 57 RX12 TX12 tyX12 := by
  refine ⟨kX12, rfl, ⟨by decide, by decide, by decide +kernel⟩, ?_, wiX12_minutesFrom, wvX12_minutesFrom, wIX12, wcX12_minutesFrom⟩
  rw [hM]; exact wmX12_186
theorem wmX12_183 : Cond.methodLink RX12 183 yX12_isLight ∈ sm_G := sm_t6 9 rfl rfl
theorem wsX12_isLight : Cond.static yX12_isLight ∈ sm_G := sm_t6 10 rfl rfl
theorem wcX12_isLight : Cond.code mX12_isLight.1 mX12_isLight.2.1 mX12_isLight.2.2.1 mX12_isLight.2.2.2 ∈ sm_G := sm_t6 11 rfl rfl
theorem csX12_183 {M : sm_M} (hM : M.1.cls = RX12) : sm_cS M mX12_isLight 183 1 := by
  refine ⟨⟨by decide, by decide, by decide +kernel⟩, ?_, wsX12_isLight, wIX12, wcX12_isLight⟩
  rw [hM]; exact wmX12_183
theorem wmX12_204 : Cond.methodLink RX12 204 yX12_whyNot ∈ sm_G := sm_t6 1 rfl rfl
theorem wiX12_whyNot : Cond.instanceMethod yX12_whyNot ∈ sm_G := sm_t6 3 rfl rfl
theorem wvX12_whyNot : Cond.selects RX12 yX12_whyNot yX12_whyNot ∈ sm_G := sm_t0 53 rfl rfl
theorem wcX12_whyNot : Cond.code mX12_whyNot.1 mX12_whyNot.2.1 mX12_whyNot.2.2.1 mX12_whyNot.2.2.2 ∈ sm_G := sm_t6 4 rfl rfl
theorem cvX12_204 {M : sm_M} (hM : M.1.cls = RX12) : sm_cV M mX12_whyNot 204 1 12 57 RX12 TX12 tyX12 := by
  refine ⟨kX12, rfl, ⟨by decide, by decide, by decide +kernel⟩, ?_, wiX12_whyNot, wvX12_whyNot, wIX12, wcX12_whyNot⟩
  rw [hM]; exact wmX12_204
theorem wfX12_189 : Cond.fieldLink RX12 189 "NoHedgeTwiceModel" "undoHedge" "[I" ∈ sm_G := sm_t7 91 rfl rfl
theorem wfX12_192 : Cond.fieldLink RX12 192 "NoHedgeTwiceModel" "undoHere" "[I" ∈ sm_G := sm_t7 92 rfl rfl
theorem wfX12_195 : Cond.fieldLink RX12 195 "NoHedgeTwiceModel" "undoTime" "[I" ∈ sm_G := sm_t7 93 rfl rfl
theorem wfX12_198 : Cond.fieldLink RX12 198 "NoHedgeTwiceModel" "undoLast" "[I" ∈ sm_G := sm_t7 94 rfl rfl
theorem wmX12_207 : Cond.methodLink RX12 207 yX12_putsBy ∈ sm_G := sm_t6 16 rfl rfl
theorem wiX12_putsBy : Cond.instanceMethod yX12_putsBy ∈ sm_G := sm_t6 18 rfl rfl
theorem wvX12_putsBy : Cond.selects RX12 yX12_putsBy yX12_putsBy ∈ sm_G := sm_t0 56 rfl rfl
theorem wcX12_putsBy : Cond.code mX12_putsBy.1 mX12_putsBy.2.1 mX12_putsBy.2.2.1 mX12_putsBy.2.2.2 ∈ sm_G := sm_t6 19 rfl rfl
theorem cvX12_207 {M : sm_M} (hM : M.1.cls = RX12) : sm_cV M mX12_putsBy 207 1 12 57 RX12 TX12 tyX12 := by
  refine ⟨kX12, rfl, ⟨by decide, by decide, by decide +kernel⟩, ?_, wiX12_putsBy, wvX12_putsBy, wIX12, wcX12_putsBy⟩
  rw [hM]; exact wmX12_207
theorem wmX12_201 : Cond.methodLink RX12 201 yX12_endOf ∈ sm_G := sm_t6 24 rfl rfl
theorem wiX12_endOf : Cond.instanceMethod yX12_endOf ∈ sm_G := sm_t6 26 rfl rfl
theorem wvX12_endOf : Cond.selects RX12 yX12_endOf yX12_endOf ∈ sm_G := sm_t0 58 rfl rfl
theorem wcX12_endOf : Cond.code mX12_endOf.1 mX12_endOf.2.1 mX12_endOf.2.2.1 mX12_endOf.2.2.2 ∈ sm_G := sm_t6 27 rfl rfl
theorem cvX12_201 {M : sm_M} (hM : M.1.cls = RX12) : sm_cV M mX12_endOf 201 2 12 57 RX12 TX12 tyX12 := by
  refine ⟨kX12, rfl, ⟨by decide, by decide, by decide +kernel⟩, ?_, wiX12_endOf, wvX12_endOf, wIX12, wcX12_endOf⟩
  rw [hM]; exact wmX12_201
theorem wmX12_211 : Cond.methodLink RX12 211 yX12_walks ∈ sm_G := sm_t6 20 rfl rfl
theorem wiX12_walks : Cond.instanceMethod yX12_walks ∈ sm_G := sm_t6 22 rfl rfl
theorem wvX12_walks : Cond.selects RX12 yX12_walks yX12_walks ∈ sm_G := sm_t0 57 rfl rfl
theorem wcX12_walks : Cond.code mX12_walks.1 mX12_walks.2.1 mX12_walks.2.2.1 mX12_walks.2.2.2 ∈ sm_G := sm_t6 23 rfl rfl
theorem cvX12_211 {M : sm_M} (hM : M.1.cls = RX12) : sm_cV M mX12_walks 211 1 12 57 RX12 TX12 tyX12 := by
  refine ⟨kX12, rfl, ⟨by decide, by decide, by decide +kernel⟩, ?_, wiX12_walks, wvX12_walks, wIX12, wcX12_walks⟩
  rw [hM]; exact wmX12_211
theorem wmX12_214 : Cond.methodLink RX12 214 yX12_canNow ∈ sm_G := sm_t6 44 rfl rfl
theorem wiX12_canNow : Cond.instanceMethod yX12_canNow ∈ sm_G := sm_t6 46 rfl rfl
theorem wvX12_canNow : Cond.selects RX12 yX12_canNow yX12_canNow ∈ sm_G := sm_t0 59 rfl rfl
theorem wcX12_canNow : Cond.code mX12_canNow.1 mX12_canNow.2.1 mX12_canNow.2.2.1 mX12_canNow.2.2.2 ∈ sm_G := sm_t6 47 rfl rfl
theorem cvX12_214 {M : sm_M} (hM : M.1.cls = RX12) : sm_cV M mX12_canNow 214 0 12 57 RX12 TX12 tyX12 := by
  refine ⟨kX12, rfl, ⟨by decide, by decide, by decide +kernel⟩, ?_, wiX12_canNow, wvX12_canNow, wIX12, wcX12_canNow⟩
  rw [hM]; exact wmX12_214
theorem wfX12_220 : Cond.fieldLink RX12 220 "NoHedgeTwiceModel" "tourFrom" "[I" ∈ sm_G := sm_t7 95 rfl rfl
theorem wfX12_223 : Cond.fieldLink RX12 223 "NoHedgeTwiceModel" "tourLong" "[I" ∈ sm_G := sm_t7 96 rfl rfl
theorem wfX12_11 : Cond.fieldLink RX12 11 "NoHedgeTwiceModel" "rows" "I" ∈ sm_G := sm_t7 64 rfl rfl
theorem wfX12_7 : Cond.fieldLink RX12 7 "NoHedgeTwiceModel" "row" "[I" ∈ sm_G := sm_t7 65 rfl rfl
theorem wmX12_229 : Cond.methodLink RX12 229 yX12_enters ∈ sm_G := sm_t6 52 rfl rfl
theorem wiX12_enters : Cond.instanceMethod yX12_enters ∈ sm_G := sm_t6 54 rfl rfl
theorem wvX12_enters : Cond.selects RX12 yX12_enters yX12_enters ∈ sm_G := sm_t0 60 rfl rfl
theorem wcX12_enters : Cond.code mX12_enters.1 mX12_enters.2.1 mX12_enters.2.2.1 mX12_enters.2.2.2 ∈ sm_G := sm_t6 55 rfl rfl
theorem cvX12_229 {M : sm_M} (hM : M.1.cls = RX12) : sm_cV M mX12_enters 229 1 12 57 RX12 TX12 tyX12 := by
  refine ⟨kX12, rfl, ⟨by decide, by decide, by decide +kernel⟩, ?_, wiX12_enters, wvX12_enters, wIX12, wcX12_enters⟩
  rw [hM]; exact wmX12_229
theorem wfX12_226 : Cond.fieldLink RX12 226 "NoHedgeTwiceModel" "tourHedge" "[I" ∈ sm_G := sm_t7 97 rfl rfl
theorem wfX12_217 : Cond.fieldLink RX12 217 "NoHedgeTwiceModel" "readTour" "[I" ∈ sm_G := sm_t7 98 rfl rfl
theorem wfX12_232 : Cond.fieldLink RX12 232 "NoHedgeTwiceModel" "byHere" "I" ∈ sm_G := sm_t7 99 rfl rfl
theorem wfX12_235 : Cond.fieldLink RX12 235 "NoHedgeTwiceModel" "byTime" "I" ∈ sm_G := sm_t7 100 rfl rfl
theorem wfX12_238 : Cond.fieldLink RX12 238 "NoHedgeTwiceModel" "byLast" "[I" ∈ sm_G := sm_t7 101 rfl rfl
theorem wmX12_241 : Cond.methodLink RX12 241 yX12_putsWalker ∈ sm_G := sm_t6 60 rfl rfl
theorem wiX12_putsWalker : Cond.instanceMethod yX12_putsWalker ∈ sm_G := sm_t6 62 rfl rfl
theorem wvX12_putsWalker : Cond.selects RX12 yX12_putsWalker yX12_putsWalker ∈ sm_G := sm_t0 61 rfl rfl
theorem wcX12_putsWalker : Cond.code mX12_putsWalker.1 mX12_putsWalker.2.1 mX12_putsWalker.2.2.1 mX12_putsWalker.2.2.2 ∈ sm_G := sm_t6 63 rfl rfl
theorem cvX12_241 {M : sm_M} (hM : M.1.cls = RX12) : sm_cV M mX12_putsWalker 241 0 12 57 RX12 TX12 tyX12 := by
  refine ⟨kX12, rfl, ⟨by decide, by decide, by decide +kernel⟩, ?_, wiX12_putsWalker, wvX12_putsWalker, wIX12, wcX12_putsWalker⟩
  rw [hM]; exact wmX12_241
theorem wmX12_245 : Cond.methodLink RX12 245 yX12_putsBack ∈ sm_G := sm_t6 64 rfl rfl
theorem wiX12_putsBack : Cond.instanceMethod yX12_putsBack ∈ sm_G := sm_t6 66 rfl rfl
theorem wvX12_putsBack : Cond.selects RX12 yX12_putsBack yX12_putsBack ∈ sm_G := sm_t0 62 rfl rfl
theorem wcX12_putsBack : Cond.code mX12_putsBack.1 mX12_putsBack.2.1 mX12_putsBack.2.2.1 mX12_putsBack.2.2.2 ∈ sm_G := sm_t6 67 rfl rfl
theorem cvX12_245 {M : sm_M} (hM : M.1.cls = RX12) : sm_cV M mX12_putsBack 245 0 12 57 RX12 TX12 tyX12 := by
  refine ⟨kX12, rfl, ⟨by decide, by decide, by decide +kernel⟩, ?_, wiX12_putsBack, wvX12_putsBack, wIX12, wcX12_putsBack⟩
  rw [hM]; exact wmX12_245
theorem wfX12_248 : Cond.fieldLink RX12 248 "NoHedgeTwiceModel" "endMinute" "I" ∈ sm_G := sm_t7 102 rfl rfl
theorem wmX12_251 : Cond.methodLink RX12 251 yX12_cornerOf ∈ sm_G := sm_t6 76 rfl rfl
theorem wiX12_cornerOf : Cond.instanceMethod yX12_cornerOf ∈ sm_G := sm_t6 78 rfl rfl
theorem wvX12_cornerOf : Cond.selects RX12 yX12_cornerOf yX12_cornerOf ∈ sm_G := sm_t0 64 rfl rfl
theorem wcX12_cornerOf : Cond.code mX12_cornerOf.1 mX12_cornerOf.2.1 mX12_cornerOf.2.2.1 mX12_cornerOf.2.2.2 ∈ sm_G := sm_t6 79 rfl rfl
theorem cvX12_251 {M : sm_M} (hM : M.1.cls = RX12) : sm_cV M mX12_cornerOf 251 3 12 57 RX12 TX12 tyX12 := by
  refine ⟨kX12, rfl, ⟨by decide, by decide, by decide +kernel⟩, ?_, wiX12_cornerOf, wvX12_cornerOf, wIX12, wcX12_cornerOf⟩
  rw [hM]; exact wmX12_251
theorem wmX12_255 : Cond.methodLink RX12 255 yX12_meetsBy ∈ sm_G := sm_t6 72 rfl rfl
theorem wiX12_meetsBy : Cond.instanceMethod yX12_meetsBy ∈ sm_G := sm_t6 74 rfl rfl
theorem wvX12_meetsBy : Cond.selects RX12 yX12_meetsBy yX12_meetsBy ∈ sm_G := sm_t0 63 rfl rfl
theorem wcX12_meetsBy : Cond.code mX12_meetsBy.1 mX12_meetsBy.2.1 mX12_meetsBy.2.2.1 mX12_meetsBy.2.2.2 ∈ sm_G := sm_t6 75 rfl rfl
theorem cvX12_255 {M : sm_M} (hM : M.1.cls = RX12) : sm_cV M mX12_meetsBy 255 1 12 57 RX12 TX12 tyX12 := by
  refine ⟨kX12, rfl, ⟨by decide, by decide, by decide +kernel⟩, ?_, wiX12_meetsBy, wvX12_meetsBy, wIX12, wcX12_meetsBy⟩
  rw [hM]; exact wmX12_255
theorem wlX12_258 : Cond.constantLong RX12 258 (60 : Int64) ∈ sm_G := sm_t6 88 rfl rfl
theorem wmX12_260 : Cond.methodLink RX12 260 yX12_sleeps ∈ sm_G := sm_t6 89 rfl rfl
theorem wiX12_sleeps : Cond.instanceMethod yX12_sleeps ∈ sm_G := sm_t6 91 rfl rfl
theorem wvX12_sleeps : Cond.selects RX12 yX12_sleeps yX12_sleeps ∈ sm_G := sm_t0 65 rfl rfl
theorem wcX12_sleeps : Cond.code mX12_sleeps.1 mX12_sleeps.2.1 mX12_sleeps.2.2.1 mX12_sleeps.2.2.2 ∈ sm_G := sm_t6 92 rfl rfl
theorem cvX12_260 {M : sm_M} (hM : M.1.cls = RX12) : sm_cV M mX12_sleeps 260 0 12 57 RX12 TX12 tyX12 := by
  refine ⟨kX12, rfl, ⟨by decide, by decide, by decide +kernel⟩, ?_, wiX12_sleeps, wvX12_sleeps, wIX12, wcX12_sleeps⟩
  rw [hM]; exact wmX12_260
theorem wmX12_266 : Cond.methodLink RX12 266 yX12_allHedges ∈ sm_G := sm_t6 97 rfl rfl
theorem wiX12_allHedges : Cond.instanceMethod yX12_allHedges ∈ sm_G := sm_t6 99 rfl rfl
theorem wvX12_allHedges : Cond.selects RX12 yX12_allHedges yX12_allHedges ∈ sm_G := sm_t0 66 rfl rfl
theorem wcX12_allHedges : Cond.code mX12_allHedges.1 mX12_allHedges.2.1 mX12_allHedges.2.2.1 mX12_allHedges.2.2.2 ∈ sm_G := sm_t6 100 rfl rfl
theorem cvX12_266 {M : sm_M} (hM : M.1.cls = RX12) : sm_cV M mX12_allHedges 266 0 12 57 RX12 TX12 tyX12 := by
  refine ⟨kX12, rfl, ⟨by decide, by decide, by decide +kernel⟩, ?_, wiX12_allHedges, wvX12_allHedges, wIX12, wcX12_allHedges⟩
  rw [hM]; exact wmX12_266
theorem wmX12_269 : Cond.methodLink RX12 269 yX12_oddOf ∈ sm_G := sm_t6 101 rfl rfl
theorem wiX12_oddOf : Cond.instanceMethod yX12_oddOf ∈ sm_G := sm_t6 103 rfl rfl
theorem wvX12_oddOf : Cond.selects RX12 yX12_oddOf yX12_oddOf ∈ sm_G := sm_t0 67 rfl rfl
theorem wcX12_oddOf : Cond.code mX12_oddOf.1 mX12_oddOf.2.1 mX12_oddOf.2.2.1 mX12_oddOf.2.2.2 ∈ sm_G := sm_t6 104 rfl rfl
theorem cvX12_269 {M : sm_M} (hM : M.1.cls = RX12) : sm_cV M mX12_oddOf 269 1 12 57 RX12 TX12 tyX12 := by
  refine ⟨kX12, rfl, ⟨by decide, by decide, by decide +kernel⟩, ?_, wiX12_oddOf, wvX12_oddOf, wIX12, wcX12_oddOf⟩
  rw [hM]; exact wmX12_269
theorem wmX12_272 : Cond.methodLink RX12 272 yJ6_bitCount_0f7a4 ∈ sm_G := sm_t6 105 rfl rfl
theorem csX12_272 {M : sm_M} (hM : M.1.cls = RX12) : sm_cS M mJ6_bitCount_0f7a4 272 1 := by
  refine ⟨⟨by decide, by decide, by decide +kernel⟩, ?_, wsJ6_bitCount_0f7a4, wIJ6, wcJ6_bitCount_0f7a4⟩
  rw [hM]; exact wmX12_272
theorem wfX12_263 : Cond.fieldLink RX12 263 "NoHedgeTwiceModel" "part" "[I" ∈ sm_G := sm_t7 103 rfl rfl
theorem wmX12_277 : Cond.methodLink RX12 277 yX12_parts ∈ sm_G := sm_t6 110 rfl rfl
theorem wiX12_parts : Cond.instanceMethod yX12_parts ∈ sm_G := sm_t6 112 rfl rfl
theorem wvX12_parts : Cond.selects RX12 yX12_parts yX12_parts ∈ sm_G := sm_t0 68 rfl rfl
theorem wcX12_parts : Cond.code mX12_parts.1 mX12_parts.2.1 mX12_parts.2.2.1 mX12_parts.2.2.2 ∈ sm_G := sm_t6 113 rfl rfl
theorem cvX12_277 {M : sm_M} (hM : M.1.cls = RX12) : sm_cV M mX12_parts 277 1 12 57 RX12 TX12 tyX12 := by
  refine ⟨kX12, rfl, ⟨by decide, by decide, by decide +kernel⟩, ?_, wiX12_parts, wvX12_parts, wIX12, wcX12_parts⟩
  rw [hM]; exact wmX12_277
theorem wmX12_280 : Cond.methodLink RX12 280 yX12_partOfHedges ∈ sm_G := sm_t6 114 rfl rfl
theorem wiX12_partOfHedges : Cond.instanceMethod yX12_partOfHedges ∈ sm_G := sm_t6 116 rfl rfl
theorem wvX12_partOfHedges : Cond.selects RX12 yX12_partOfHedges yX12_partOfHedges ∈ sm_G := sm_t0 69 rfl rfl
theorem wcX12_partOfHedges : Cond.code mX12_partOfHedges.1 mX12_partOfHedges.2.1 mX12_partOfHedges.2.2.1 mX12_partOfHedges.2.2.2 ∈ sm_G := sm_t6 117 rfl rfl
theorem cvX12_280 {M : sm_M} (hM : M.1.cls = RX12) : sm_cV M mX12_partOfHedges 280 2 12 57 RX12 TX12 tyX12 := by
  refine ⟨kX12, rfl, ⟨by decide, by decide, by decide +kernel⟩, ?_, wiX12_partOfHedges, wvX12_partOfHedges, wIX12, wcX12_partOfHedges⟩
  rw [hM]; exact wmX12_280
theorem wmX12_283 : Cond.methodLink RX12 283 yX12_canTrail ∈ sm_G := sm_t6 122 rfl rfl
theorem wiX12_canTrail : Cond.instanceMethod yX12_canTrail ∈ sm_G := sm_t6 124 rfl rfl
theorem wvX12_canTrail : Cond.selects RX12 yX12_canTrail yX12_canTrail ∈ sm_G := sm_t0 70 rfl rfl
theorem wcX12_canTrail : Cond.code mX12_canTrail.1 mX12_canTrail.2.1 mX12_canTrail.2.2.1 mX12_canTrail.2.2.2 ∈ sm_G := sm_t6 125 rfl rfl
theorem cvX12_283 {M : sm_M} (hM : M.1.cls = RX12) : sm_cV M mX12_canTrail 283 2 12 57 RX12 TX12 tyX12 := by
  refine ⟨kX12, rfl, ⟨by decide, by decide, by decide +kernel⟩, ?_, wiX12_canTrail, wvX12_canTrail, wIX12, wcX12_canTrail⟩
  rw [hM]; exact wmX12_283
theorem wmX12_289 : Cond.methodLink RX12 289 yX12_hangTogether ∈ sm_G := sm_t6 130 rfl rfl
theorem wiX12_hangTogether : Cond.instanceMethod yX12_hangTogether ∈ sm_G := sm_t6 132 rfl rfl
theorem wvX12_hangTogether : Cond.selects RX12 yX12_hangTogether yX12_hangTogether ∈ sm_G := sm_t0 71 rfl rfl
theorem wcX12_hangTogether : Cond.code mX12_hangTogether.1 mX12_hangTogether.2.1 mX12_hangTogether.2.2.1 mX12_hangTogether.2.2.2 ∈ sm_G := sm_t6 133 rfl rfl
theorem cvX12_289 {M : sm_M} (hM : M.1.cls = RX12) : sm_cV M mX12_hangTogether 289 0 12 57 RX12 TX12 tyX12 := by
  refine ⟨kX12, rfl, ⟨by decide, by decide, by decide +kernel⟩, ?_, wiX12_hangTogether, wvX12_hangTogether, wIX12, wcX12_hangTogether⟩
  rw [hM]; exact wmX12_289
theorem wfX12_286 : Cond.fieldLink RX12 286 "NoHedgeTwiceModel" "comes" "[I" ∈ sm_G := sm_t7 104 rfl rfl
theorem wmX12_292 : Cond.methodLink RX12 292 yX12_isEven ∈ sm_G := sm_t6 134 rfl rfl
theorem wiX12_isEven : Cond.instanceMethod yX12_isEven ∈ sm_G := sm_t6 136 rfl rfl
theorem wvX12_isEven : Cond.selects RX12 yX12_isEven yX12_isEven ∈ sm_G := sm_t0 72 rfl rfl
theorem wcX12_isEven : Cond.code mX12_isEven.1 mX12_isEven.2.1 mX12_isEven.2.2.1 mX12_isEven.2.2.2 ∈ sm_G := sm_t6 137 rfl rfl
theorem cvX12_292 {M : sm_M} (hM : M.1.cls = RX12) : sm_cV M mX12_isEven 292 1 12 57 RX12 TX12 tyX12 := by
  refine ⟨kX12, rfl, ⟨by decide, by decide, by decide +kernel⟩, ?_, wiX12_isEven, wvX12_isEven, wIX12, wcX12_isEven⟩
  rw [hM]; exact wmX12_292
theorem wfX12_304 : Cond.fieldLink RX12 304 "NoHedgeTwiceModel" "bestGrass" "I" ∈ sm_G := sm_t7 109 rfl rfl
theorem wfX12_295 : Cond.fieldLink RX12 295 "NoHedgeTwiceModel" "pairsMany" "I" ∈ sm_G := sm_t7 105 rfl rfl
theorem wkJ6_264 : Cond.constant RJ6 264 (65536 : Int32) ∈ sm_G := sm_t6 157 rfl rfl
theorem wmX12_313 : Cond.methodLink RX12 313 yJ6_numberOfTrailingZeros_0f7a4 ∈ sm_G := sm_t6 154 rfl rfl
theorem wsJ6_numberOfTrailingZeros_0f7a4 : Cond.static yJ6_numberOfTrailingZeros_0f7a4 ∈ sm_G := sm_t6 155 rfl rfl
theorem wcJ6_numberOfTrailingZeros_0f7a4 : Cond.code mJ6_numberOfTrailingZeros_0f7a4.1 mJ6_numberOfTrailingZeros_0f7a4.2.1 mJ6_numberOfTrailingZeros_0f7a4.2.2.1 mJ6_numberOfTrailingZeros_0f7a4.2.2.2 ∈ sm_G := sm_t6 156 rfl rfl
theorem csX12_313 {M : sm_M} (hM : M.1.cls = RX12) : sm_cS M mJ6_numberOfTrailingZeros_0f7a4 313 1 := by
  refine ⟨⟨by decide, by decide, by decide +kernel⟩, ?_, wsJ6_numberOfTrailingZeros_0f7a4, wIJ6, wcJ6_numberOfTrailingZeros_0f7a4⟩
  rw [hM]; exact wmX12_313
theorem wmX12_316 : Cond.methodLink RX12 316 yX12_couples ∈ sm_G := sm_t6 146 rfl rfl
theorem wiX12_couples : Cond.instanceMethod yX12_couples ∈ sm_G := sm_t6 148 rfl rfl
theorem wvX12_couples : Cond.selects RX12 yX12_couples yX12_couples ∈ sm_G := sm_t0 74 rfl rfl
theorem wcX12_couples : Cond.code mX12_couples.1 mX12_couples.2.1 mX12_couples.2.2.1 mX12_couples.2.2.2 ∈ sm_G := sm_t6 149 rfl rfl
theorem cvX12_316 {M : sm_M} (hM : M.1.cls = RX12) : sm_cV M mX12_couples 316 3 12 57 RX12 TX12 tyX12 := by
  refine ⟨kX12, rfl, ⟨by decide, by decide, by decide +kernel⟩, ?_, wiX12_couples, wvX12_couples, wIX12, wcX12_couples⟩
  rw [hM]; exact wmX12_316
theorem wfX12_298 : Cond.fieldLink RX12 298 "NoHedgeTwiceModel" "pairs" "[I" ∈ sm_G := sm_t7 106 rfl rfl
theorem wfX12_310 : Cond.fieldLink RX12 310 "NoHedgeTwiceModel" "bestMany" "I" ∈ sm_G := sm_t7 108 rfl rfl
theorem wfX12_301 : Cond.fieldLink RX12 301 "NoHedgeTwiceModel" "bestPairs" "[I" ∈ sm_G := sm_t7 107 rfl rfl
theorem wmX12_307 : Cond.methodLink RX12 307 yX12_isLessRow ∈ sm_G := sm_t6 150 rfl rfl
theorem wiX12_isLessRow : Cond.instanceMethod yX12_isLessRow ∈ sm_G := sm_t6 152 rfl rfl
theorem wvX12_isLessRow : Cond.selects RX12 yX12_isLessRow yX12_isLessRow ∈ sm_G := sm_t0 75 rfl rfl
theorem wcX12_isLessRow : Cond.code mX12_isLessRow.1 mX12_isLessRow.2.1 mX12_isLessRow.2.2.1 mX12_isLessRow.2.2.2 ∈ sm_G := sm_t6 153 rfl rfl
theorem cvX12_307 {M : sm_M} (hM : M.1.cls = RX12) : sm_cV M mX12_isLessRow 307 0 12 57 RX12 TX12 tyX12 := by
  refine ⟨kX12, rfl, ⟨by decide, by decide, by decide +kernel⟩, ?_, wiX12_isLessRow, wvX12_isLessRow, wIX12, wcX12_isLessRow⟩
  rw [hM]; exact wmX12_307
theorem wmX12_320 : Cond.methodLink RX12 320 yX12_pairsBy ∈ sm_G := sm_t6 142 rfl rfl
theorem wiX12_pairsBy : Cond.instanceMethod yX12_pairsBy ∈ sm_G := sm_t6 144 rfl rfl
theorem wvX12_pairsBy : Cond.selects RX12 yX12_pairsBy yX12_pairsBy ∈ sm_G := sm_t0 73 rfl rfl
theorem wcX12_pairsBy : Cond.code mX12_pairsBy.1 mX12_pairsBy.2.1 mX12_pairsBy.2.2.1 mX12_pairsBy.2.2.2 ∈ sm_G := sm_t6 145 rfl rfl
theorem cvX12_320 {M : sm_M} (hM : M.1.cls = RX12) : sm_cV M mX12_pairsBy 320 1 12 57 RX12 TX12 tyX12 := by
  refine ⟨kX12, rfl, ⟨by decide, by decide, by decide +kernel⟩, ?_, wiX12_pairsBy, wvX12_pairsBy, wIX12, wcX12_pairsBy⟩
  rw [hM]; exact wmX12_320
theorem wfX12_323 : Cond.fieldLink RX12 323 "NoHedgeTwiceModel" "least" "[I" ∈ sm_G := sm_t7 110 rfl rfl
theorem wkX12_326 : Cond.constant RX12 326 (1000000 : Int32) ∈ sm_G := sm_t6 174 rfl rfl
theorem wmX12_327 : Cond.methodLink RX12 327 yX12_laysOut ∈ sm_G := sm_t6 170 rfl rfl
theorem wiX12_laysOut : Cond.instanceMethod yX12_laysOut ∈ sm_G := sm_t6 172 rfl rfl
theorem wvX12_laysOut : Cond.selects RX12 yX12_laysOut yX12_laysOut ∈ sm_G := sm_t0 77 rfl rfl
theorem wcX12_laysOut : Cond.code mX12_laysOut.1 mX12_laysOut.2.1 mX12_laysOut.2.2.1 mX12_laysOut.2.2.2 ∈ sm_G := sm_t6 173 rfl rfl
theorem cvX12_327 {M : sm_M} (hM : M.1.cls = RX12) : sm_cV M mX12_laysOut 327 1 12 57 RX12 TX12 tyX12 := by
  refine ⟨kX12, rfl, ⟨by decide, by decide, by decide +kernel⟩, ?_, wiX12_laysOut, wvX12_laysOut, wIX12, wcX12_laysOut⟩
  rw [hM]; exact wmX12_327
theorem wmX12_330 : Cond.methodLink RX12 330 yX12_soonest ∈ sm_G := sm_t6 175 rfl rfl
theorem wiX12_soonest : Cond.instanceMethod yX12_soonest ∈ sm_G := sm_t6 177 rfl rfl
theorem wvX12_soonest : Cond.selects RX12 yX12_soonest yX12_soonest ∈ sm_G := sm_t0 78 rfl rfl
theorem wcX12_soonest : Cond.code mX12_soonest.1 mX12_soonest.2.1 mX12_soonest.2.2.1 mX12_soonest.2.2.2 ∈ sm_G := sm_t6 178 rfl rfl
theorem cvX12_330 {M : sm_M} (hM : M.1.cls = RX12) : sm_cV M mX12_soonest 330 2 12 57 RX12 TX12 tyX12 := by
  refine ⟨kX12, rfl, ⟨by decide, by decide, by decide +kernel⟩, ?_, wiX12_soonest, wvX12_soonest, wIX12, wcX12_soonest⟩
  rw [hM]; exact wmX12_330
theorem wmX12_333 : Cond.methodLink RX12 333 yX12_worthOf ∈ sm_G := sm_t6 179 rfl rfl
theorem wiX12_worthOf : Cond.instanceMethod yX12_worthOf ∈ sm_G := sm_t6 181 rfl rfl
theorem wvX12_worthOf : Cond.selects RX12 yX12_worthOf yX12_worthOf ∈ sm_G := sm_t0 79 rfl rfl
theorem wcX12_worthOf : Cond.code mX12_worthOf.1 mX12_worthOf.2.1 mX12_worthOf.2.2.1 mX12_worthOf.2.2.2 ∈ sm_G := sm_t6 182 rfl rfl
theorem cvX12_333 {M : sm_M} (hM : M.1.cls = RX12) : sm_cV M mX12_worthOf 333 1 12 57 RX12 TX12 tyX12 := by
  refine ⟨kX12, rfl, ⟨by decide, by decide, by decide +kernel⟩, ?_, wiX12_worthOf, wvX12_worthOf, wIX12, wcX12_worthOf⟩
  rw [hM]; exact wmX12_333
theorem wmX12_336 : Cond.methodLink RX12 336 yX12_mostBy ∈ sm_G := sm_t6 166 rfl rfl
theorem wiX12_mostBy : Cond.instanceMethod yX12_mostBy ∈ sm_G := sm_t6 168 rfl rfl
theorem wvX12_mostBy : Cond.selects RX12 yX12_mostBy yX12_mostBy ∈ sm_G := sm_t0 76 rfl rfl
theorem wcX12_mostBy : Cond.code mX12_mostBy.1 mX12_mostBy.2.1 mX12_mostBy.2.2.1 mX12_mostBy.2.2.2 ∈ sm_G := sm_t6 169 rfl rfl
theorem cvX12_336 {M : sm_M} (hM : M.1.cls = RX12) : sm_cV M mX12_mostBy 336 3 12 57 RX12 TX12 tyX12 := by
  refine ⟨kX12, rfl, ⟨by decide, by decide, by decide +kernel⟩, ?_, wiX12_mostBy, wvX12_mostBy, wIX12, wcX12_mostBy⟩
  rw [hM]; exact wmX12_336
theorem wlX12_339 : Cond.constantLong RX12 339 (200 : Int64) ∈ sm_G := sm_t6 191 rfl rfl
theorem wlX12_341 : Cond.constantLong RX12 341 (-1 : Int64) ∈ sm_G := sm_t6 200 rfl rfl
theorem wfX12_343 : Cond.fieldLink RX12 343 "NoHedgeTwiceModel" "far" "[I" ∈ sm_G := sm_t7 111 rfl rfl
theorem wmX12_346 : Cond.methodLink RX12 346 yX12_shortens ∈ sm_G := sm_t6 213 rfl rfl
theorem wiX12_shortens : Cond.instanceMethod yX12_shortens ∈ sm_G := sm_t6 215 rfl rfl
theorem wvX12_shortens : Cond.selects RX12 yX12_shortens yX12_shortens ∈ sm_G := sm_t0 82 rfl rfl
theorem wcX12_shortens : Cond.code mX12_shortens.1 mX12_shortens.2.1 mX12_shortens.2.2.1 mX12_shortens.2.2.2 ∈ sm_G := sm_t6 216 rfl rfl
theorem cvX12_346 {M : sm_M} (hM : M.1.cls = RX12) : sm_cV M mX12_shortens 346 3 12 57 RX12 TX12 tyX12 := by
  refine ⟨kX12, rfl, ⟨by decide, by decide, by decide +kernel⟩, ?_, wiX12_shortens, wvX12_shortens, wIX12, wcX12_shortens⟩
  rw [hM]; exact wmX12_346
theorem wmX12_353 : Cond.methodLink RX12 353 yX12_measures ∈ sm_G := sm_t6 209 rfl rfl
theorem wiX12_measures : Cond.instanceMethod yX12_measures ∈ sm_G := sm_t6 211 rfl rfl
theorem wvX12_measures : Cond.selects RX12 yX12_measures yX12_measures ∈ sm_G := sm_t0 81 rfl rfl
theorem wcX12_measures : Cond.code mX12_measures.1 mX12_measures.2.1 mX12_measures.2.2.1 mX12_measures.2.2.2 ∈ sm_G := sm_t6 212 rfl rfl
theorem cvX12_353 {M : sm_M} (hM : M.1.cls = RX12) : sm_cV M mX12_measures 353 0 12 57 RX12 TX12 tyX12 := by
  refine ⟨kX12, rfl, ⟨by decide, by decide, by decide +kernel⟩, ?_, wiX12_measures, wvX12_measures, wIX12, wcX12_measures⟩
  rw [hM]; exact wmX12_353
theorem wmX12_349 : Cond.methodLink RX12 349 yX12_gateBy ∈ sm_G := sm_t6 221 rfl rfl
theorem wiX12_gateBy : Cond.instanceMethod yX12_gateBy ∈ sm_G := sm_t6 223 rfl rfl
theorem wvX12_gateBy : Cond.selects RX12 yX12_gateBy yX12_gateBy ∈ sm_G := sm_t0 84 rfl rfl
theorem wcX12_gateBy : Cond.code mX12_gateBy.1 mX12_gateBy.2.1 mX12_gateBy.2.2.1 mX12_gateBy.2.2.2 ∈ sm_G := sm_t6 224 rfl rfl
theorem cvX12_349 {M : sm_M} (hM : M.1.cls = RX12) : sm_cV M mX12_gateBy 349 4 12 57 RX12 TX12 tyX12 := by
  refine ⟨kX12, rfl, ⟨by decide, by decide, by decide +kernel⟩, ?_, wiX12_gateBy, wvX12_gateBy, wIX12, wcX12_gateBy⟩
  rw [hM]; exact wmX12_349
theorem wmX12_356 : Cond.methodLink RX12 356 yX12_gateBest ∈ sm_G := sm_t6 217 rfl rfl
theorem wiX12_gateBest : Cond.instanceMethod yX12_gateBest ∈ sm_G := sm_t6 219 rfl rfl
theorem wvX12_gateBest : Cond.selects RX12 yX12_gateBest yX12_gateBest ∈ sm_G := sm_t0 83 rfl rfl
theorem wcX12_gateBest : Cond.code mX12_gateBest.1 mX12_gateBest.2.1 mX12_gateBest.2.2.1 mX12_gateBest.2.2.2 ∈ sm_G := sm_t6 220 rfl rfl
theorem cvX12_356 {M : sm_M} (hM : M.1.cls = RX12) : sm_cV M mX12_gateBest 356 3 12 57 RX12 TX12 tyX12 := by
  refine ⟨kX12, rfl, ⟨by decide, by decide, by decide +kernel⟩, ?_, wiX12_gateBest, wvX12_gateBest, wIX12, wcX12_gateBest⟩
  rw [hM]; exact wmX12_356
theorem wmX12_359 : Cond.methodLink RX12 359 yX12_laysOutGates ∈ sm_G := sm_t6 205 rfl rfl
theorem wiX12_laysOutGates : Cond.instanceMethod yX12_laysOutGates ∈ sm_G := sm_t6 207 rfl rfl
theorem wvX12_laysOutGates : Cond.selects RX12 yX12_laysOutGates yX12_laysOutGates ∈ sm_G := sm_t0 80 rfl rfl
theorem wcX12_laysOutGates : Cond.code mX12_laysOutGates.1 mX12_laysOutGates.2.1 mX12_laysOutGates.2.2.1 mX12_laysOutGates.2.2.2 ∈ sm_G := sm_t6 208 rfl rfl
theorem cvX12_359 {M : sm_M} (hM : M.1.cls = RX12) : sm_cV M mX12_laysOutGates 359 0 12 57 RX12 TX12 tyX12 := by
  refine ⟨kX12, rfl, ⟨by decide, by decide, by decide +kernel⟩, ?_, wiX12_laysOutGates, wvX12_laysOutGates, wIX12, wcX12_laysOutGates⟩
  rw [hM]; exact wmX12_359
theorem wfX12_362 : Cond.fieldLink RX12 362 "NoHedgeTwiceModel" "cost" "[I" ∈ sm_G := sm_t7 112 rfl rfl
theorem wmX12_365 : Cond.methodLink RX12 365 yX12_isOnWay ∈ sm_G := sm_t6 225 rfl rfl
theorem wiX12_isOnWay : Cond.instanceMethod yX12_isOnWay ∈ sm_G := sm_t6 227 rfl rfl
theorem wvX12_isOnWay : Cond.selects RX12 yX12_isOnWay yX12_isOnWay ∈ sm_G := sm_t0 85 rfl rfl
theorem wcX12_isOnWay : Cond.code mX12_isOnWay.1 mX12_isOnWay.2.1 mX12_isOnWay.2.2.1 mX12_isOnWay.2.2.2 ∈ sm_G := sm_t6 228 rfl rfl
theorem cvX12_365 {M : sm_M} (hM : M.1.cls = RX12) : sm_cV M mX12_isOnWay 365 3 12 57 RX12 TX12 tyX12 := by
  refine ⟨kX12, rfl, ⟨by decide, by decide, by decide +kernel⟩, ?_, wiX12_isOnWay, wvX12_isOnWay, wIX12, wcX12_isOnWay⟩
  rw [hM]; exact wmX12_365
theorem wfX12_372 : Cond.fieldLink RX12 372 "NoHedgeTwiceModel" "costThen" "[I" ∈ sm_G := sm_t7 113 rfl rfl
theorem wmX12_375 : Cond.methodLink RX12 375 yX12_comesTo ∈ sm_G := sm_t6 233 rfl rfl
theorem wiX12_comesTo : Cond.instanceMethod yX12_comesTo ∈ sm_G := sm_t6 235 rfl rfl
theorem wvX12_comesTo : Cond.selects RX12 yX12_comesTo yX12_comesTo ∈ sm_G := sm_t0 87 rfl rfl
theorem wcX12_comesTo : Cond.code mX12_comesTo.1 mX12_comesTo.2.1 mX12_comesTo.2.2.1 mX12_comesTo.2.2.2 ∈ sm_G := sm_t6 236 rfl rfl
theorem cvX12_375 {M : sm_M} (hM : M.1.cls = RX12) : sm_cV M mX12_comesTo 375 2 12 57 RX12 TX12 tyX12 := by
  refine ⟨kX12, rfl, ⟨by decide, by decide, by decide +kernel⟩, ?_, wiX12_comesTo, wvX12_comesTo, wIX12, wcX12_comesTo⟩
  rw [hM]; exact wmX12_375
theorem wmX12_369 : Cond.methodLink RX12 369 yX12_goesThrough ∈ sm_G := sm_t6 229 rfl rfl
theorem wiX12_goesThrough : Cond.instanceMethod yX12_goesThrough ∈ sm_G := sm_t6 231 rfl rfl
theorem wvX12_goesThrough : Cond.selects RX12 yX12_goesThrough yX12_goesThrough ∈ sm_G := sm_t0 86 rfl rfl
theorem wcX12_goesThrough : Cond.code mX12_goesThrough.1 mX12_goesThrough.2.1 mX12_goesThrough.2.2.1 mX12_goesThrough.2.2.2 ∈ sm_G := sm_t6 232 rfl rfl
theorem cvX12_369 {M : sm_M} (hM : M.1.cls = RX12) : sm_cV M mX12_goesThrough 369 1 12 57 RX12 TX12 tyX12 := by
  refine ⟨kX12, rfl, ⟨by decide, by decide, by decide +kernel⟩, ?_, wiX12_goesThrough, wvX12_goesThrough, wIX12, wcX12_goesThrough⟩
  rw [hM]; exact wmX12_369
theorem wlX12_379 : Cond.constantLong RX12 379 (6 : Int64) ∈ sm_G := sm_t7 1 rfl rfl
theorem wfX12_381 : Cond.fieldLink RX12 381 "NoHedgeTwiceModel" "heards" "I" ∈ sm_G := sm_t7 114 rfl rfl
theorem wfX12_384 : Cond.fieldLink RX12 384 "NoHedgeTwiceModel" "heardHedge" "[I" ∈ sm_G := sm_t7 115 rfl rfl
theorem wfX12_387 : Cond.fieldLink RX12 387 "NoHedgeTwiceModel" "heardCows" "[I" ∈ sm_G := sm_t7 116 rfl rfl
theorem wmX12_390 : Cond.methodLink RX12 390 yX12_cowsOf ∈ sm_G := sm_t7 18 rfl rfl
theorem wsX12_cowsOf : Cond.static yX12_cowsOf ∈ sm_G := sm_t7 19 rfl rfl
theorem wcX12_cowsOf : Cond.code mX12_cowsOf.1 mX12_cowsOf.2.1 mX12_cowsOf.2.2.1 mX12_cowsOf.2.2.2 ∈ sm_G := sm_t7 20 rfl rfl
theorem csX12_390 {M : sm_M} (hM : M.1.cls = RX12) : sm_cS M mX12_cowsOf 390 2 := by
  refine ⟨⟨by decide, by decide, by decide +kernel⟩, ?_, wsX12_cowsOf, wIX12, wcX12_cowsOf⟩
  rw [hM]; exact wmX12_390
theorem wmX12_399 : Cond.methodLink RX12 399 yX12_digitsOf ∈ sm_G := sm_t7 21 rfl rfl
theorem wsX12_digitsOf : Cond.static yX12_digitsOf ∈ sm_G := sm_t7 22 rfl rfl
theorem wcX12_digitsOf : Cond.code mX12_digitsOf.1 mX12_digitsOf.2.1 mX12_digitsOf.2.2.1 mX12_digitsOf.2.2.2 ∈ sm_G := sm_t7 23 rfl rfl
theorem csX12_399 {M : sm_M} (hM : M.1.cls = RX12) : sm_cS M mX12_digitsOf 399 1 := by
  refine ⟨⟨by decide, by decide, by decide +kernel⟩, ?_, wsX12_digitsOf, wIX12, wcX12_digitsOf⟩
  rw [hM]; exact wmX12_399
theorem wmX12_393 : Cond.methodLink RX12 393 yX12_over ∈ sm_G := sm_t7 14 rfl rfl
theorem wiX12_over : Cond.instanceMethod yX12_over ∈ sm_G := sm_t7 16 rfl rfl
theorem wvX12_over : Cond.selects RX12 yX12_over yX12_over ∈ sm_G := sm_t0 89 rfl rfl
theorem wcX12_over : Cond.code mX12_over.1 mX12_over.2.1 mX12_over.2.2.1 mX12_over.2.2.2 ∈ sm_G := sm_t7 17 rfl rfl
theorem cvX12_393 {M : sm_M} (hM : M.1.cls = RX12) : sm_cV M mX12_over 393 2 12 57 RX12 TX12 tyX12 := by
  refine ⟨kX12, rfl, ⟨by decide, by decide, by decide +kernel⟩, ?_, wiX12_over, wvX12_over, wIX12, wcX12_over⟩
  rw [hM]; exact wmX12_393
theorem wmX12_396 : Cond.methodLink RX12 396 yX12_wrongOf ∈ sm_G := sm_t7 10 rfl rfl
theorem wiX12_wrongOf : Cond.instanceMethod yX12_wrongOf ∈ sm_G := sm_t7 12 rfl rfl
theorem wvX12_wrongOf : Cond.selects RX12 yX12_wrongOf yX12_wrongOf ∈ sm_G := sm_t0 88 rfl rfl
theorem wcX12_wrongOf : Cond.code mX12_wrongOf.1 mX12_wrongOf.2.1 mX12_wrongOf.2.2.1 mX12_wrongOf.2.2.2 ∈ sm_G := sm_t7 13 rfl rfl
theorem cvX12_396 {M : sm_M} (hM : M.1.cls = RX12) : sm_cV M mX12_wrongOf 396 1 12 57 RX12 TX12 tyX12 := by
  refine ⟨kX12, rfl, ⟨by decide, by decide, by decide +kernel⟩, ?_, wiX12_wrongOf, wvX12_wrongOf, wIX12, wcX12_wrongOf⟩
  rw [hM]; exact wmX12_396
theorem wfX12_402 : Cond.fieldLink RX12 402 "NoHedgeTwiceModel" "ways" "[I" ∈ sm_G := sm_t7 117 rfl rfl
theorem wmX12_405 : Cond.methodLink RX12 405 yX12_holds ∈ sm_G := sm_t7 40 rfl rfl
theorem wiX12_holds : Cond.instanceMethod yX12_holds ∈ sm_G := sm_t7 42 rfl rfl
theorem wvX12_holds : Cond.selects RX12 yX12_holds yX12_holds ∈ sm_G := sm_t0 90 rfl rfl
theorem wcX12_holds : Cond.code mX12_holds.1 mX12_holds.2.1 mX12_holds.2.2.1 mX12_holds.2.2.2 ∈ sm_G := sm_t7 43 rfl rfl
theorem cvX12_405 {M : sm_M} (hM : M.1.cls = RX12) : sm_cV M mX12_holds 405 1 12 57 RX12 TX12 tyX12 := by
  refine ⟨kX12, rfl, ⟨by decide, by decide, by decide +kernel⟩, ?_, wiX12_holds, wvX12_holds, wIX12, wcX12_holds⟩
  rw [hM]; exact wmX12_405
theorem wlX12_408 : Cond.constantLong RX12 408 (2 : Int64) ∈ sm_G := sm_t7 48 rfl rfl
theorem wfX12_410 : Cond.fieldLink RX12 410 "NoHedgeTwiceModel" "isKept" "[Z" ∈ sm_G := sm_t7 118 rfl rfl
theorem wfX12_414 : Cond.fieldLink RX12 414 "NoHedgeTwiceModel" "kept" "[I" ∈ sm_G := sm_t7 119 rfl rfl
theorem wmX11_1 : Cond.methodLink RX11 1 Lib.objectInit ∈ sm_G := sm_t1 25 rfl rfl
theorem wiObj : Cond.instanceMethod Lib.objectInit ∈ sm_G := sm_t1 26 rfl rfl
theorem wcObj : Cond.code Lib.objectInit ⟨#[0xb1]⟩ 1 none ∈ sm_G := sm_t1 27 rfl rfl
theorem wCX11_7 : Cond.classLink RX11 7 RX8 ∈ sm_G := sm_t1 28 rfl rfl
theorem wN8 : Cond.instantiable RX8 6 ∈ sm_G := sm_t1 29 rfl rfl
theorem zX8 : ∀ j, j < 6 → defaultValue (tyX8 j) = cond (Nat.beq (sm_fty 8 j) 9) .null (.int 0) := by decide +kernel
theorem wnX11_9 : Cond.methodLinkNest RX11 9 yX8_init "NoHedgeTwice" ∈ sm_N := sm_pn (lw_t1 30 rfl) rfl
theorem wiX8_init : Cond.instanceMethod yX8_init ∈ sm_G := sm_t1 31 rfl rfl
theorem wcX8_init : Cond.code mX8_init.1 mX8_init.2.1 mX8_init.2.2.1 mX8_init.2.2.2 ∈ sm_G := sm_t1 32 rfl rfl
theorem ciX11_9 {M : sm_M} (hM : M.1.cls = RX11) : sm_cI M mX8_init 9 0 := ⟨⟨by decide, by decide, by decide +kernel⟩, rfl, rfl, Or.inr ⟨_, by rw [hM]; exact wnX11_9⟩, wiX8_init, wIX8, wcX8_init⟩
theorem wmX8_3 : Cond.methodLink RX8 3 Lib.objectInit ∈ sm_G := sm_t1 33 rfl rfl
theorem wA_char : Cond.arrayClass .char ∈ sm_G := sm_t1 55 rfl rfl
theorem wCX11_16 : Cond.classLink RX11 16 RX2 ∈ sm_G := sm_t1 56 rfl rfl
theorem wN2 : Cond.instantiable RX2 14 ∈ sm_G := sm_t1 57 rfl rfl
theorem zX2 : ∀ j, j < 14 → defaultValue (tyX2 j) = cond (Nat.beq (sm_fty 2 j) 9) .null (.int 0) := by decide +kernel
theorem wnX11_18 : Cond.methodLinkNest RX11 18 yX2_init "NoHedgeTwice" ∈ sm_N := sm_pn (lw_t1 58 rfl) rfl
theorem wiX2_init : Cond.instanceMethod yX2_init ∈ sm_G := sm_t1 59 rfl rfl
theorem wcX2_init : Cond.code mX2_init.1 mX2_init.2.1 mX2_init.2.2.1 mX2_init.2.2.2 ∈ sm_G := sm_t1 60 rfl rfl
theorem ciX11_18 {M : sm_M} (hM : M.1.cls = RX11) : sm_cI M mX2_init 18 0 := ⟨⟨by decide, by decide, by decide +kernel⟩, rfl, rfl, Or.inr ⟨_, by rw [hM]; exact wnX11_18⟩, wiX2_init, wIX2, wcX2_init⟩
theorem wmX2_3 : Cond.methodLink RX2 3 Lib.objectInit ∈ sm_G := sm_t1 61 rfl rfl
theorem wfX2_18 : Cond.fieldLink RX2 18 "NoHedgeTwice$Land" "nights" "I" ∈ sm_G := sm_t1 74 rfl rfl
theorem wfX2_21 : Cond.fieldLink RX2 21 "NoHedgeTwice$Land" "frost" "I" ∈ sm_G := sm_t1 77 rfl rfl
theorem wA_int : Cond.arrayClass .int ∈ sm_G := sm_t1 147 rfl rfl
theorem wfX2_40 : Cond.fieldLink RX2 40 "NoHedgeTwice$Land" "left" "[I" ∈ sm_G := sm_t1 97 rfl rfl
theorem wfX2_43 : Cond.fieldLink RX2 43 "NoHedgeTwice$Land" "right" "[I" ∈ sm_G := sm_t1 101 rfl rfl
theorem wA_boolean : Cond.arrayClass .boolean ∈ sm_G := sm_t1 148 rfl rfl
theorem wfX2_52 : Cond.fieldLink RX2 52 "NoHedgeTwice$Land" "gate" "[Z" ∈ sm_G := sm_t1 113 rfl rfl
theorem wCX11_23 : Cond.classLink RX11 23 RX5 ∈ sm_G := sm_t1 149 rfl rfl
theorem wN5 : Cond.instantiable RX5 2 ∈ sm_G := sm_t1 150 rfl rfl
theorem zX5 : ∀ j, j < 2 → defaultValue (tyX5 j) = cond (Nat.beq (sm_fty 5 j) 9) .null (.int 0) := by decide +kernel
theorem wnX11_25 : Cond.methodLinkNest RX11 25 yX5_init "NoHedgeTwice" ∈ sm_N := sm_pn (lw_t1 151 rfl) rfl
theorem wiX5_init : Cond.instanceMethod yX5_init ∈ sm_G := sm_t1 152 rfl rfl
theorem wcX5_init : Cond.code mX5_init.1 mX5_init.2.1 mX5_init.2.2.1 mX5_init.2.2.2 ∈ sm_G := sm_t1 153 rfl rfl
theorem ciX11_25 {M : sm_M} (hM : M.1.cls = RX11) : sm_cI M mX5_init 25 0 := ⟨⟨by decide, by decide, by decide +kernel⟩, rfl, rfl, Or.inr ⟨_, by rw [hM]; exact wnX11_25⟩, wiX5_init, wIX5, wcX5_init⟩
theorem wmX5_3 : Cond.methodLink RX5 3 Lib.objectInit ∈ sm_G := sm_t1 154 rfl rfl
theorem wCX11_30 : Cond.classLink RX11 30 RX6 ∈ sm_G := sm_t1 164 rfl rfl
theorem wN6 : Cond.instantiable RX6 3 ∈ sm_G := sm_t1 165 rfl rfl
theorem zX6 : ∀ j, j < 3 → defaultValue (tyX6 j) = cond (Nat.beq (sm_fty 6 j) 9) .null (.int 0) := by decide +kernel
theorem wmX11_32 : Cond.methodLink RX11 32 yX6_init ∈ sm_G := sm_t1 166 rfl rfl
theorem wiX6_init : Cond.instanceMethod yX6_init ∈ sm_G := sm_t1 167 rfl rfl
theorem wcX6_init : Cond.code mX6_init.1 mX6_init.2.1 mX6_init.2.2.1 mX6_init.2.2.2 ∈ sm_G := sm_t1 168 rfl rfl
theorem ciX11_32 {M : sm_M} (hM : M.1.cls = RX11) : sm_cI M mX6_init 32 0 := ⟨⟨by decide, by decide, by decide +kernel⟩, rfl, rfl, Or.inl (by rw [hM]; exact wmX11_32), wiX6_init, wIX6, wcX6_init⟩
theorem wmX6_3 : Cond.methodLink RX6 3 Lib.objectInit ∈ sm_G := sm_t1 169 rfl rfl
theorem wCX11_40 : Cond.classLink RX11 40 RX7 ∈ sm_G := sm_t1 185 rfl rfl
theorem wN7 : Cond.instantiable RX7 6 ∈ sm_G := sm_t1 186 rfl rfl
theorem zX7 : ∀ j, j < 6 → defaultValue (tyX7 j) = cond (Nat.beq (sm_fty 7 j) 9) .null (.int 0) := by decide +kernel
theorem wnX11_42 : Cond.methodLinkNest RX11 42 yX7_init "NoHedgeTwice" ∈ sm_N := sm_pn (lw_t1 187 rfl) rfl
theorem wiX7_init : Cond.instanceMethod yX7_init ∈ sm_G := sm_t1 188 rfl rfl
theorem wcX7_init : Cond.code mX7_init.1 mX7_init.2.1 mX7_init.2.2.1 mX7_init.2.2.2 ∈ sm_G := sm_t1 189 rfl rfl
theorem ciX11_42 {M : sm_M} (hM : M.1.cls = RX11) : sm_cI M mX7_init 42 0 := ⟨⟨by decide, by decide, by decide +kernel⟩, rfl, rfl, Or.inr ⟨_, by rw [hM]; exact wnX11_42⟩, wiX7_init, wIX7, wcX7_init⟩
theorem wmX7_3 : Cond.methodLink RX7 3 Lib.objectInit ∈ sm_G := sm_t1 190 rfl rfl
theorem wCX11_47 : Cond.classLink RX11 47 RX9 ∈ sm_G := sm_t1 211 rfl rfl
theorem wCX11_53 : Cond.classLink RX11 53 RX4 ∈ sm_G := sm_t1 213 rfl rfl
theorem wN4 : Cond.instantiable RX4 3 ∈ sm_G := sm_t1 214 rfl rfl
theorem zX4 : ∀ j, j < 3 → defaultValue (tyX4 j) = cond (Nat.beq (sm_fty 4 j) 9) .null (.int 0) := by decide +kernel
theorem wnX11_55 : Cond.methodLinkNest RX11 55 yX4_init "NoHedgeTwice" ∈ sm_N := sm_pn (lw_t1 215 rfl) rfl
theorem wiX4_init : Cond.instanceMethod yX4_init ∈ sm_G := sm_t1 216 rfl rfl
theorem wcX4_init : Cond.code mX4_init.1 mX4_init.2.1 mX4_init.2.2.1 mX4_init.2.2.2 ∈ sm_G := sm_t1 217 rfl rfl
theorem ciX11_55 {M : sm_M} (hM : M.1.cls = RX11) : sm_cI M mX4_init 55 0 := ⟨⟨by decide, by decide, by decide +kernel⟩, rfl, rfl, Or.inr ⟨_, by rw [hM]; exact wnX11_55⟩, wiX4_init, wIX4, wcX4_init⟩
theorem wmX4_3 : Cond.methodLink RX4 3 Lib.objectInit ∈ sm_G := sm_t1 218 rfl rfl
theorem wCX4_18 : Cond.classLink RX4 18 RX3 ∈ sm_G := sm_t1 219 rfl rfl
theorem wN3 : Cond.instantiable RX3 2 ∈ sm_G := sm_t1 220 rfl rfl
theorem zX3 : ∀ j, j < 2 → defaultValue (tyX3 j) = cond (Nat.beq (sm_fty 3 j) 9) .null (.int 0) := by decide +kernel
theorem wmX4_20 : Cond.methodLink RX4 20 yX3_init ∈ sm_G := sm_t1 221 rfl rfl
theorem wiX3_init : Cond.instanceMethod yX3_init ∈ sm_G := sm_t1 222 rfl rfl
theorem wcX3_init : Cond.code mX3_init.1 mX3_init.2.1 mX3_init.2.2.1 mX3_init.2.2.2 ∈ sm_G := sm_t1 223 rfl rfl
theorem ciX4_20 {M : sm_M} (hM : M.1.cls = RX4) : sm_cI M mX3_init 20 1 := ⟨⟨by decide, by decide, by decide +kernel⟩, rfl, rfl, Or.inl (by rw [hM]; exact wmX4_20), wiX3_init, wIX3, wcX3_init⟩
theorem wmX3_3 : Cond.methodLink RX3 3 Lib.objectInit ∈ sm_G := sm_t1 224 rfl rfl
theorem wmX3_9 : Cond.methodLink RX3 9 Lib.Math.max.name ∈ sm_G := sm_t1 225 rfl rfl
theorem wA_long : Cond.arrayClass .long ∈ sm_G := sm_t1 235 rfl rfl
theorem wCX11_60 : Cond.classLink RX11 60 RX10 ∈ sm_G := sm_t2 6 rfl rfl
theorem wN10 : Cond.instantiable RX10 2 ∈ sm_G := sm_t2 7 rfl rfl
theorem zX10 : ∀ j, j < 2 → defaultValue (tyX10 j) = cond (Nat.beq (sm_fty 10 j) 9) .null (.int 0) := by decide +kernel
theorem wnX11_62 : Cond.methodLinkNest RX11 62 yX10_init "NoHedgeTwice" ∈ sm_N := sm_pn (lw_t2 8 rfl) rfl
theorem wiX10_init : Cond.instanceMethod yX10_init ∈ sm_G := sm_t2 9 rfl rfl
theorem wcX10_init : Cond.code mX10_init.1 mX10_init.2.1 mX10_init.2.2.1 mX10_init.2.2.2 ∈ sm_G := sm_t2 10 rfl rfl
theorem ciX11_62 {M : sm_M} (hM : M.1.cls = RX11) : sm_cI M mX10_init 62 0 := ⟨⟨by decide, by decide, by decide +kernel⟩, rfl, rfl, Or.inr ⟨_, by rw [hM]; exact wnX11_62⟩, wiX10_init, wIX10, wcX10_init⟩
theorem wmX10_3 : Cond.methodLink RX10 3 Lib.objectInit ∈ sm_G := sm_t2 11 rfl rfl
theorem wCX10_9 : Cond.classLink RX10 9 RX3 ∈ sm_G := sm_t2 12 rfl rfl
theorem wmX10_11 : Cond.methodLink RX10 11 yX3_init ∈ sm_G := sm_t2 13 rfl rfl
theorem ciX10_11 {M : sm_M} (hM : M.1.cls = RX10) : sm_cI M mX3_init 11 1 := ⟨⟨by decide, by decide, by decide +kernel⟩, rfl, rfl, Or.inl (by rw [hM]; exact wmX10_11), wiX3_init, wIX3, wcX3_init⟩
theorem wCX11_67 : Cond.classLink RX11 67 RX1 ∈ sm_G := sm_t2 21 rfl rfl
theorem wN1 : Cond.instantiable RX1 7 ∈ sm_G := sm_t2 22 rfl rfl
theorem zX1 : ∀ j, j < 7 → defaultValue (tyX1 j) = cond (Nat.beq (sm_fty 1 j) 9) .null (.int 0) := by decide +kernel
theorem wnX11_69 : Cond.methodLinkNest RX11 69 yX1_init "NoHedgeTwice" ∈ sm_N := sm_pn (lw_t2 23 rfl) rfl
theorem wiX1_init : Cond.instanceMethod yX1_init ∈ sm_G := sm_t2 24 rfl rfl
theorem wcX1_init : Cond.code mX1_init.1 mX1_init.2.1 mX1_init.2.2.1 mX1_init.2.2.2 ∈ sm_G := sm_t2 25 rfl rfl
theorem ciX11_69 {M : sm_M} (hM : M.1.cls = RX11) : sm_cI M mX1_init 69 0 := ⟨⟨by decide, by decide, by decide +kernel⟩, rfl, rfl, Or.inr ⟨_, by rw [hM]; exact wnX11_69⟩, wiX1_init, wIX1, wcX1_init⟩
theorem wmX1_3 : Cond.methodLink RX1 3 Lib.objectInit ∈ sm_G := sm_t2 26 rfl rfl
theorem wCX1_28 : Cond.classLink RX1 28 "[[I" ∈ sm_G := sm_t2 27 rfl rfl
theorem wCX1_33 : Cond.classLink RX1 33 RX3 ∈ sm_G := sm_t2 29 rfl rfl
theorem wmX1_35 : Cond.methodLink RX1 35 yX3_init ∈ sm_G := sm_t2 30 rfl rfl
theorem ciX1_35 {M : sm_M} (hM : M.1.cls = RX1) : sm_cI M mX3_init 35 1 := ⟨⟨by decide, by decide, by decide +kernel⟩, rfl, rfl, Or.inl (by rw [hM]; exact wmX1_35), wiX3_init, wIX3, wcX3_init⟩
theorem wCX11_74 : Cond.classLink RX11 74 RX0 ∈ sm_G := sm_t2 53 rfl rfl
theorem wN0 : Cond.instantiable RX0 6 ∈ sm_G := sm_t2 54 rfl rfl
theorem zX0 : ∀ j, j < 6 → defaultValue (tyX0 j) = cond (Nat.beq (sm_fty 0 j) 9) .null (.int 0) := by decide +kernel
theorem wnX11_76 : Cond.methodLinkNest RX11 76 yX0_init "NoHedgeTwice" ∈ sm_N := sm_pn (lw_t2 55 rfl) rfl
theorem wiX0_init : Cond.instanceMethod yX0_init ∈ sm_G := sm_t2 56 rfl rfl
theorem wcX0_init : Cond.code mX0_init.1 mX0_init.2.1 mX0_init.2.2.1 mX0_init.2.2.2 ∈ sm_G := sm_t2 57 rfl rfl
theorem ciX11_76 {M : sm_M} (hM : M.1.cls = RX11) : sm_cI M mX0_init 76 0 := ⟨⟨by decide, by decide, by decide +kernel⟩, rfl, rfl, Or.inr ⟨_, by rw [hM]; exact wnX11_76⟩, wiX0_init, wIX0, wcX0_init⟩
theorem wmX0_3 : Cond.methodLink RX0 3 Lib.objectInit ∈ sm_G := sm_t2 58 rfl rfl
theorem wN9 : Cond.instantiable RX9 6 ∈ sm_G := sm_t2 81 rfl rfl
theorem zX9 : ∀ j, j < 6 → defaultValue (tyX9 j) = cond (Nat.beq (sm_fty 9 j) 9) .null (.int 0) := by decide +kernel
theorem wnX11_89 : Cond.methodLinkNest RX11 89 yX9_init "NoHedgeTwice" ∈ sm_N := sm_pn (lw_t2 82 rfl) rfl
theorem wiX9_init : Cond.instanceMethod yX9_init ∈ sm_G := sm_t2 83 rfl rfl
theorem wcX9_init : Cond.code mX9_init.1 mX9_init.2.1 mX9_init.2.2.1 mX9_init.2.2.2 ∈ sm_G := sm_t2 84 rfl rfl
theorem ciX11_89 {M : sm_M} (hM : M.1.cls = RX11) : sm_cI M mX9_init 89 0 := ⟨⟨by decide, by decide, by decide +kernel⟩, rfl, rfl, Or.inr ⟨_, by rw [hM]; exact wnX11_89⟩, wiX9_init, wIX9, wcX9_init⟩
theorem wmX9_3 : Cond.methodLink RX9 3 Lib.objectInit ∈ sm_G := sm_t2 85 rfl rfl
theorem wmX12_417 : Cond.methodLink RX12 417 Lib.objectInit ∈ sm_G := sm_t7 61 rfl rfl
theorem wkX12_422 : Cond.constant RX12 422 (163840 : Int32) ∈ sm_G := sm_t7 62 rfl rfl
