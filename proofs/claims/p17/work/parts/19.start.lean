theorem wCL_8 : Cond.classLink RL 8 RX11 ∈ sm_G := sm_t1 20 rfl rfl
theorem wN11 : Cond.instantiable RX11 13 ∈ sm_G := sm_t1 21 rfl rfl
theorem zX11 : ∀ j, j < 13 → defaultValue (tyX11 j) = cond (Nat.beq (sm_fty 11 j) 9) .null (.int 0) := by decide +kernel
theorem wCL_23 : Cond.classLink RL 23 RX12 ∈ sm_G := sm_t7 57 rfl rfl
theorem wN12 : Cond.instantiable RX12 57 ∈ sm_G := sm_t5 144 rfl rfl
theorem zX12 : ∀ j, j < 57 → defaultValue (tyX12 j) = cond (Nat.beq (sm_fty 12 j) 9) .null (.int 0) := by decide +kernel
theorem wmL_22 : Cond.methodLink RL 22 yX11_init ∈ sm_G := sm_t1 22 rfl rfl
theorem wiX11_init : Cond.instanceMethod yX11_init ∈ sm_G := sm_t1 23 rfl rfl
theorem wcX11_init : Cond.code mX11_init.1 mX11_init.2.1 mX11_init.2.2.1 mX11_init.2.2.2 ∈ sm_G := sm_t1 24 rfl rfl
theorem ciL_22 {M : sm_M} (hM : M.1.cls = RL) : sm_cI M mX11_init 22 0 := ⟨⟨by decide, by decide, by decide +kernel⟩, rfl, rfl, Or.inl (by rw [hM]; exact wmL_22), wiX11_init, wIX11, wcX11_init⟩
theorem wmL_25 : Cond.methodLink RL 25 yX12_init ∈ sm_G := sm_t7 58 rfl rfl
theorem wiX12_init : Cond.instanceMethod yX12_init ∈ sm_G := sm_t7 59 rfl rfl
theorem wcX12_init : Cond.code mX12_init.1 mX12_init.2.1 mX12_init.2.2.1 mX12_init.2.2.2 ∈ sm_G := sm_t7 60 rfl rfl
theorem ciL_25 {M : sm_M} (hM : M.1.cls = RL) : sm_cI M mX12_init 25 0 := ⟨⟨by decide, by decide, by decide +kernel⟩, rfl, rfl, Or.inl (by rw [hM]; exact wmL_25), wiX12_init, wIX12, wcX12_init⟩
theorem bL_law_3 {nm : String} : sm_Sd (sm_ML nm) 20 3 4 (sm_run [i_dup]) := sm_Sd.cons (sd_dup dL_law_3) (sm_Sd.nil)
theorem bL_law_7 {nm : String} : sm_Sd (sm_ML nm) 20 7 8 (sm_run [i_as 1]) := sm_Sd.cons (sd_astore_n (i := 1) dL_law_7 rfl (by first | decide | (show _ < 7; decide))) (sm_Sd.nil)
theorem bL_law_11 {nm : String} : sm_Sd (sm_ML nm) 20 11 12 (sm_run [i_dup]) := sm_Sd.cons (sd_dup dL_law_11) (sm_Sd.nil)
theorem bL_law_15 {nm : String} : sm_Sd (sm_ML nm) 20 15 17 (sm_run [i_as 2, i_c (.int (1 : Int32))]) := sm_Sd.cons (sd_astore_n (i := 2) dL_law_15 rfl (by first | decide | (show _ < 7; decide))) (sm_Sd.cons (sd_iconst dL_law_16 (by first | decide | (show _ < 7; decide))) (sm_Sd.nil))
theorem bL_law_19 {nm : String} : sm_Sd (sm_ML nm) 20 19 23 (sm_run [i_as 3, i_c (.int (0 : Int32)), i_is 4]) := sm_Sd.cons (sd_astore_n (i := 3) dL_law_19 rfl (by first | decide | (show _ < 7; decide))) (sm_Sd.cons (sd_iconst dL_law_20 (by first | decide | (show _ < 7; decide))) (sm_Sd.cons (sd_istore dL_law_21 (by first | decide | (show _ < 7; decide))) (sm_Sd.nil)))
/-! the heap behind the constructors: its references are those of the world -/
def sm_sup (r : Nat → Nat → Option Nat) : Prop := ∀ a j : Nat, 64 ≤ j → r a j = none
theorem sm_sup_u {r : Nat → Nat → Option Nat} {a k : Nat} {v : Option Nat} (hk : k < 64) (h : sm_sup r) : sm_sup (sm_u r a k v) := fun c j hj => by
  show cond (Nat.beq c a) (cond (Nat.beq j k) v (r c j)) (r c j) = none
  have e : Nat.beq j k = false := by
    cases hb : Nat.beq j k with
    | false => rfl
    | true => exact absurd (Nat.eq_of_beq_eq_true hb) (by omega)
  rw [e]
  cases Nat.beq c a <;> exact h c j hj
theorem sm_sup_z {r : Nat → Nat → Option Nat} {a : Nat} (h : sm_sup r) : sm_sup (sm_z r a none) := fun c j hj => by
  show cond (Nat.beq c a) none (r c j) = none
  cases Nat.beq c a with
  | true => rfl
  | false => exact h c j hj
theorem srz0 : sm_sup rz0 := fun _ _ _ => rfl
theorem srz1 : sm_sup rz1 := sm_sup_z srz0
theorem srz2 : sm_sup rz2 := sm_sup_z srz1
theorem srz3 : sm_sup rz3 := sm_sup_z srz2
theorem srz4 : sm_sup rz4 := sm_sup_u (by decide) (srz3)
theorem srz5 : sm_sup rz5 := sm_sup_u (by decide) (srz4)
theorem srz6 : sm_sup rz6 := sm_sup_z srz5
theorem srz7 : sm_sup rz7 := sm_sup_z srz6
theorem srz8 : sm_sup rz8 := sm_sup_u (by decide) (srz7)
theorem srz9 : sm_sup rz9 := sm_sup_z srz8
theorem srz10 : sm_sup rz10 := sm_sup_u (by decide) (srz9)
theorem srz11 : sm_sup rz11 := sm_sup_z srz10
theorem srz12 : sm_sup rz12 := sm_sup_u (by decide) (srz11)
theorem srz13 : sm_sup rz13 := sm_sup_z srz12
theorem srz14 : sm_sup rz14 := sm_sup_u (by decide) (srz13)
theorem srz15 : sm_sup rz15 := sm_sup_z srz14
theorem srz16 : sm_sup rz16 := sm_sup_u (by decide) (srz15)
theorem srz17 : sm_sup rz17 := sm_sup_z srz16
theorem srz18 : sm_sup rz18 := sm_sup_u (by decide) (srz17)
theorem srz19 : sm_sup rz19 := sm_sup_z srz18
theorem srz20 : sm_sup rz20 := sm_sup_u (by decide) (srz19)
theorem srz21 : sm_sup rz21 := sm_sup_z srz20
theorem srz22 : sm_sup rz22 := sm_sup_u (by decide) (srz21)
theorem srz23 : sm_sup rz23 := sm_sup_z srz22
theorem srz24 : sm_sup rz24 := sm_sup_u (by decide) (srz23)
theorem srz25 : sm_sup rz25 := sm_sup_z srz24
theorem srz26 : sm_sup rz26 := sm_sup_u (by decide) (srz25)
theorem srz27 : sm_sup rz27 := sm_sup_u (by decide) (srz26)
theorem srz28 : sm_sup rz28 := sm_sup_z srz27
theorem srz29 : sm_sup rz29 := sm_sup_z srz28
theorem srz30 : sm_sup rz30 := sm_sup_u (by decide) (srz29)
theorem srz31 : sm_sup rz31 := sm_sup_u (by decide) (srz30)
theorem srz32 : sm_sup rz32 := sm_sup_z srz31
theorem srz33 : sm_sup rz33 := sm_sup_z srz32
theorem srz34 : sm_sup rz34 := sm_sup_u (by decide) (srz33)
theorem srz35 : sm_sup rz35 := sm_sup_u (by decide) (srz34)
theorem srz36 : sm_sup rz36 := sm_sup_z srz35
theorem srz37 : sm_sup rz37 := sm_sup_z srz36
theorem srz38 : sm_sup rz38 := sm_sup_u (by decide) (srz37)
theorem srz39 : sm_sup rz39 := sm_sup_u (by decide) (srz38)
theorem srz40 : sm_sup rz40 := sm_sup_z srz39
theorem srz41 : sm_sup rz41 := sm_sup_z srz40
theorem srz42 : sm_sup rz42 := sm_sup_u (by decide) (srz41)
theorem srz43 : sm_sup rz43 := sm_sup_z srz42
theorem srz44 : sm_sup rz44 := sm_sup_u (by decide) (srz43)
theorem srz45 : sm_sup rz45 := sm_sup_z srz44
theorem srz46 : sm_sup rz46 := sm_sup_u (by decide) (srz45)
theorem srz47 : sm_sup rz47 := sm_sup_z srz46
theorem srz48 : sm_sup rz48 := sm_sup_u (by decide) (srz47)
theorem srz49 : sm_sup rz49 := sm_sup_u (by decide) (srz48)
theorem srz50 : sm_sup rz50 := sm_sup_z srz49
theorem srz51 : sm_sup rz51 := sm_sup_u (by decide) (srz50)
theorem srz52 : sm_sup rz52 := sm_sup_z srz51
theorem srz53 : sm_sup rz53 := sm_sup_z srz52
theorem srz54 : sm_sup rz54 := sm_sup_u (by decide) (srz53)
theorem srz55 : sm_sup rz55 := sm_sup_z srz54
theorem srz56 : sm_sup rz56 := sm_sup_u (by decide) (srz55)
theorem srz57 : sm_sup rz57 := sm_sup_z srz56
theorem srz58 : sm_sup rz58 := sm_sup_z srz57
theorem srz59 : sm_sup rz59 := sm_sup_u (by decide) (srz58)
theorem srz60 : sm_sup rz60 := sm_sup_u (by decide) (srz59)
theorem srz61 : sm_sup rz61 := sm_sup_u (by decide) (srz60)
theorem srz62 : sm_sup rz62 := sm_sup_z srz61
theorem srz63 : sm_sup rz63 := sm_sup_z srz62
theorem srz64 : sm_sup rz64 := sm_sup_z srz63
theorem srz65 : sm_sup rz65 := sm_sup_u (by decide) (srz64)
theorem srz66 : sm_sup rz66 := sm_sup_u (by decide) (srz65)
theorem srz67 : sm_sup rz67 := sm_sup_u (by decide) (srz66)
theorem srz68 : sm_sup rz68 := sm_sup_z srz67
theorem srz69 : sm_sup rz69 := sm_sup_z srz68
theorem srz70 : sm_sup rz70 := sm_sup_u (by decide) (srz69)
theorem srz71 : sm_sup rz71 := sm_sup_z srz70
theorem srz72 : sm_sup rz72 := sm_sup_u (by decide) (srz71)
theorem srz73 : sm_sup rz73 := sm_sup_z srz72
theorem srz74 : sm_sup rz74 := sm_sup_u (by decide) (srz73)
theorem srz75 : sm_sup rz75 := sm_sup_z srz74
theorem srz76 : sm_sup rz76 := sm_sup_z srz75
theorem srz77 : sm_sup rz77 := sm_sup_z srz76
theorem srz78 : sm_sup rz78 := sm_sup_z srz77
theorem srz79 : sm_sup rz79 := sm_sup_z srz78
theorem srz80 : sm_sup rz80 := sm_sup_z srz79
theorem srz81 : sm_sup rz81 := sm_sup_z srz80
theorem srz82 : sm_sup rz82 := sm_sup_z srz81
theorem srz83 : sm_sup rz83 := sm_sup_z srz82
theorem srz84 : sm_sup rz84 := sm_sup_z srz83
theorem srz85 : sm_sup rz85 := sm_sup_z srz84
theorem srz86 : sm_sup rz86 := sm_sup_u (by decide) (sm_sup_u (by decide) (sm_sup_u (by decide) (sm_sup_u (by decide) (sm_sup_u (by decide) (sm_sup_u (by decide) (sm_sup_u (by decide) (sm_sup_u (by decide) (sm_sup_u (by decide) (sm_sup_u (by decide) (srz85))))))))))
theorem srz87 : sm_sup rz87 := sm_sup_u (by decide) (srz86)
theorem srz88 : sm_sup rz88 := sm_sup_z srz87
theorem srz89 : sm_sup rz89 := sm_sup_z srz88
theorem srz90 : sm_sup rz90 := sm_sup_u (by decide) (srz89)
theorem srz91 : sm_sup rz91 := sm_sup_u (by decide) (srz90)
theorem srz92 : sm_sup rz92 := sm_sup_u (by decide) (srz91)
theorem srz93 : sm_sup rz93 := sm_sup_z srz92
theorem srz94 : sm_sup rz94 := sm_sup_z srz93
theorem srz95 : sm_sup rz95 := sm_sup_u (by decide) (srz94)
theorem srz96 : sm_sup rz96 := sm_sup_z srz95
theorem srz97 : sm_sup rz97 := sm_sup_u (by decide) (srz96)
theorem srz98 : sm_sup rz98 := sm_sup_z srz97
theorem srz99 : sm_sup rz99 := sm_sup_u (by decide) (srz98)
theorem srz100 : sm_sup rz100 := sm_sup_z srz99
theorem srz101 : sm_sup rz101 := sm_sup_u (by decide) (srz100)
theorem srz102 : sm_sup rz102 := sm_sup_u (by decide) (srz101)
theorem srz103 : sm_sup rz103 := sm_sup_z srz102
theorem srz104 : sm_sup rz104 := sm_sup_u (by decide) (srz103)
theorem srz105 : sm_sup rz105 := sm_sup_z srz104
theorem srz106 : sm_sup rz106 := sm_sup_u (by decide) (srz105)
theorem srz107 : sm_sup rz107 := sm_sup_z srz106
theorem srz108 : sm_sup rz108 := sm_sup_z srz107
theorem srz109 : sm_sup rz109 := sm_sup_u (by decide) (srz108)
theorem srz110 : sm_sup rz110 := sm_sup_z srz109
theorem srz111 : sm_sup rz111 := sm_sup_u (by decide) (srz110)
theorem srz112 : sm_sup rz112 := sm_sup_z srz111
theorem srz113 : sm_sup rz113 := sm_sup_u (by decide) (srz112)
theorem srz114 : sm_sup rz114 := sm_sup_u (by decide) (srz113)
theorem srz115 : sm_sup rz115 := sm_sup_z srz114
theorem srz116 : sm_sup rz116 := sm_sup_z srz115
theorem srz117 : sm_sup rz117 := sm_sup_u (by decide) (srz116)
theorem srz118 : sm_sup rz118 := sm_sup_z srz117
theorem srz119 : sm_sup rz119 := sm_sup_u (by decide) (srz118)
theorem srz120 : sm_sup rz120 := sm_sup_z srz119
theorem srz121 : sm_sup rz121 := sm_sup_u (by decide) (srz120)
theorem srz122 : sm_sup rz122 := sm_sup_u (by decide) (srz121)
theorem srz123 : sm_sup rz123 := sm_sup_z srz122
theorem srz124 : sm_sup rz124 := sm_sup_z srz123
theorem srz125 : sm_sup rz125 := sm_sup_u (by decide) (srz124)
theorem srz126 : sm_sup rz126 := sm_sup_u (by decide) (srz125)
theorem srz127 : sm_sup rz127 := sm_sup_z srz126
theorem srz128 : sm_sup rz128 := sm_sup_z srz127
theorem srz129 : sm_sup rz129 := sm_sup_u (by decide) (srz128)
theorem srz130 : sm_sup rz130 := sm_sup_u (by decide) (srz129)
theorem srz131 : sm_sup rz131 := sm_sup_z srz130
theorem srz132 : sm_sup rz132 := sm_sup_z srz131
theorem srz133 : sm_sup rz133 := sm_sup_u (by decide) (srz132)
theorem srz134 : sm_sup rz134 := sm_sup_u (by decide) (srz133)
theorem srz135 : sm_sup rz135 := sm_sup_z srz134
theorem srz136 : sm_sup rz136 := sm_sup_z srz135
theorem srz137 : sm_sup rz137 := sm_sup_u (by decide) (srz136)
theorem srz138 : sm_sup rz138 := sm_sup_z srz137
theorem srz139 : sm_sup rz139 := sm_sup_u (by decide) (srz138)
theorem srz140 : sm_sup rz140 := sm_sup_z srz139
theorem srz141 : sm_sup rz141 := sm_sup_u (by decide) (srz140)
theorem srz142 : sm_sup rz142 := sm_sup_z srz141
theorem srz143 : sm_sup rz143 := sm_sup_u (by decide) (srz142)
theorem srz144 : sm_sup rz144 := sm_sup_z srz143
theorem srz145 : sm_sup rz145 := sm_sup_u (by decide) (srz144)
theorem srz146 : sm_sup rz146 := sm_sup_z srz145
theorem srz147 : sm_sup rz147 := sm_sup_u (by decide) (srz146)
theorem srz148 : sm_sup rz148 := sm_sup_z srz147
theorem srz149 : sm_sup rz149 := sm_sup_u (by decide) (srz148)
theorem srz150 : sm_sup rz150 := sm_sup_z srz149
theorem srz151 : sm_sup rz151 := sm_sup_u (by decide) (srz150)
theorem srz152 : sm_sup rz152 := sm_sup_z srz151
theorem srz153 : sm_sup rz153 := sm_sup_u (by decide) (srz152)
theorem srz154 : sm_sup rz154 := sm_sup_z srz153
theorem srz155 : sm_sup rz155 := sm_sup_u (by decide) (srz154)
theorem srz156 : sm_sup rz156 := sm_sup_z srz155
theorem srz157 : sm_sup rz157 := sm_sup_u (by decide) (srz156)
theorem srz158 : sm_sup rz158 := sm_sup_z srz157
theorem srz159 : sm_sup rz159 := sm_sup_u (by decide) (srz158)
theorem srz160 : sm_sup rz160 := sm_sup_z srz159
theorem srz161 : sm_sup rz161 := sm_sup_u (by decide) (srz160)
theorem srz162 : sm_sup rz162 := sm_sup_z srz161
theorem srz163 : sm_sup rz163 := sm_sup_u (by decide) (srz162)
theorem srz164 : sm_sup rz164 := sm_sup_z srz163
theorem srz165 : sm_sup rz165 := sm_sup_u (by decide) (srz164)
theorem srz166 : sm_sup rz166 := sm_sup_z srz165
theorem srz167 : sm_sup rz167 := sm_sup_u (by decide) (srz166)
theorem srz168 : sm_sup rz168 := sm_sup_z srz167
theorem srz169 : sm_sup rz169 := sm_sup_u (by decide) (srz168)
theorem srz170 : sm_sup rz170 := sm_sup_z srz169
theorem srz171 : sm_sup rz171 := sm_sup_u (by decide) (srz170)
theorem srz172 : sm_sup rz172 := sm_sup_z srz171
theorem srz173 : sm_sup rz173 := sm_sup_u (by decide) (srz172)
theorem srz174 : sm_sup rz174 := sm_sup_z srz173
theorem srz175 : sm_sup rz175 := sm_sup_u (by decide) (srz174)
theorem srz176 : sm_sup rz176 := sm_sup_z srz175
theorem srz177 : sm_sup rz177 := sm_sup_u (by decide) (srz176)
theorem srz178 : sm_sup rz178 := sm_sup_z srz177
theorem srz179 : sm_sup rz179 := sm_sup_u (by decide) (srz178)
theorem srz180 : sm_sup rz180 := sm_sup_z srz179
theorem srz181 : sm_sup rz181 := sm_sup_u (by decide) (srz180)
theorem srz182 : sm_sup rz182 := sm_sup_z srz181
theorem srz183 : sm_sup rz183 := sm_sup_u (by decide) (srz182)
theorem srz184 : sm_sup rz184 := sm_sup_z srz183
theorem srz185 : sm_sup rz185 := sm_sup_u (by decide) (srz184)
theorem srz186 : sm_sup rz186 := sm_sup_z srz185
theorem srz187 : sm_sup rz187 := sm_sup_u (by decide) (srz186)
theorem srz188 : sm_sup rz188 := sm_sup_z srz187
theorem srz189 : sm_sup rz189 := sm_sup_u (by decide) (srz188)
theorem srz190 : sm_sup rz190 := sm_sup_z srz189
theorem srz191 : sm_sup rz191 := sm_sup_u (by decide) (srz190)
theorem srz192 : sm_sup rz192 := sm_sup_z srz191
theorem srz193 : sm_sup rz193 := sm_sup_u (by decide) (srz192)
theorem srz194 : sm_sup rz194 := sm_sup_z srz193
theorem srz195 : sm_sup rz195 := sm_sup_u (by decide) (srz194)
theorem srz196 : sm_sup rz196 := sm_sup_z srz195
theorem srz197 : sm_sup rz197 := sm_sup_u (by decide) (srz196)
theorem srz198 : sm_sup rz198 := sm_sup_z srz197
theorem srz199 : sm_sup rz199 := sm_sup_u (by decide) (srz198)
theorem srz200 : sm_sup rz200 := sm_sup_z srz199
theorem srz201 : sm_sup rz201 := sm_sup_u (by decide) (srz200)
theorem srz202 : sm_sup rz202 := sm_sup_z srz201
theorem srz203 : sm_sup rz203 := sm_sup_u (by decide) (srz202)
theorem srz204 : sm_sup rz204 := sm_sup_z srz203
theorem sm_rl_sup : ∀ (l : List (Nat × Nat)) (j : Nat), (∀ q ∈ l, q.1 < 64) → 64 ≤ j → sm_rl l j = none
  | [], _, _, _ => rfl
  | q :: t, j, h, hj => by
    have h1 := h q List.mem_cons_self
    show cond (Nat.beq q.1 j) (some q.2) (sm_rl t j) = none
    have e : Nat.beq q.1 j = false := by
      cases hb : Nat.beq q.1 j with
      | false => rfl
      | true => exact absurd (Nat.eq_of_beq_eq_true hb) (by omega)
    rw [e]
    exact sm_rl_sup t j (fun q hq => h q (List.mem_cons_of_mem _ hq)) hj
theorem sm_rc_sup : ∀ (t : List (Nat × List (Nat × Nat))) (c : Nat), (∀ q ∈ t, ∀ y ∈ q.2, y.1 < 64) → ∀ y ∈ sm_rc t c, y.1 < 64
  | [], _, _ => fun _ h => absurd h List.not_mem_nil
  | q :: t, c, h => by
    show ∀ y ∈ cond (Nat.beq q.1 c) q.2 (sm_rc t c), y.1 < 64
    cases Nat.beq q.1 c with
    | true => exact h q List.mem_cons_self
    | false => exact sm_rc_sup t c (fun q hq => h q (List.mem_cons_of_mem _ hq))
theorem sm_R0_sup : sm_sup sm_R0 := fun c j hj => sm_rl_sup _ j (sm_rc_sup sm_rt c (by
  have h : sm_rt.all (fun q => q.2.all (fun y => decide (y.1 < 64))) = true := by decide +kernel
  intro q hq y hy
  exact of_decide_eq_true (List.all_eq_true.mp (List.all_eq_true.mp h q hq) y hy))) hj
theorem sm_rz_eq (a : Nat) (ha : a < 108) : rz204 a = sm_R0 a := by
  have h : (List.range 108).all (fun a => (List.range 64).all (fun j => decide (rz204 a j = sm_R0 a j))) = true := by decide +kernel
  funext j
  by_cases hj : j < 64
  · exact of_decide_eq_true (List.all_eq_true.mp (List.all_eq_true.mp h a (List.mem_range.mpr ha)) j (List.mem_range.mpr hj))
  · rw [srz204 a j (by omega), sm_R0_sup a j (by omega)]
/-- the ints and longs that the constructors leave -/
def sm_m0 : sm_S := (gz197, lz108)
theorem sm_en_congr {dA : Nat → ClassId} {ba a : Nat} {kd : Nat × Nat} {K K' : sm_K} {g : Nat → Nat → Int32} {l : Nat → Nat → Int64} {r r' : Nat → Nat → Option Nat} (hr : r a = r' a) : sm_en dA ba (K, g, l, r) a kd = sm_en dA ba (K', g, l, r') a kd := by
  unfold sm_en sm_fl
  simp only [hr]
theorem sm_heap0 {dA : Nat → ClassId} {ba : Nat} : sm_ws dA ba hz287 = sm_ws dA ba (sm_hp sm_m0) := by
  apply List.ext_getElem?
  intro i
  unfold sm_ws
  rw [List.getElem?_mapIdx, List.getElem?_mapIdx]
  have e1 : hz287.1 = sm_K0 := rfl
  have e2 : (sm_hp sm_m0).1 = sm_K0 := rfl
  rw [e1, e2]
  cases hi : sm_K0[i]? with
  | none => rfl
  | some kd =>
    have hlt : i < 108 := (List.getElem?_eq_some_iff.mp hi).1
    have he : sm_en dA ba hz287 i kd = sm_en dA ba (sm_hp sm_m0) i kd := sm_en_congr (sm_rz_eq i hlt)
    rw [Option.map_some, Option.map_some, he]
section SMB
variable {M : sm_M} {d pc : Nat} {p : Program} {l : Launch} {e : Env} {R : Room} {s : State} {m : MethodId} {args : Array Value} {below : List Frame} {meth : Method} {c : Code} {b ba : Nat} {D : va_G} {dA : Nat → ClassId} {al : Bool} {rc rs : Nat} {Q : State → Prop} {L st : List Value} {h : sm_H}
theorem sm_At.heap {h' : sm_H} (e1 : h'.1.length = h.1.length) (e2 : sm_ws dA ba h = sm_ws dA ba h') (k : sm_At p l e R s m args below meth c b ba D dA M.2.2.1 al rc rs Q pc L st h') : sm_At p l e R s m args below meth c b ba D dA M.2.2.1 al rc rs Q pc L st h :=
  fun H locs cells slots ls hP hS hH hl q1 q2 => k H locs cells slots ls (by rw [← e2]; exact hP) hS (fun q => by rw [e1]; exact hH q) hl q1 q2
theorem j_callI {Y : sm_M} {dY idx a n mc' ms' : Nat} (As st0 : List Value) (rc rs : Nat) {q : Option Value × sm_H} (hC : sm_C p R s m args meth c M d D dA) (hR : sm_Rt l Y dY mc' ms' true true (.ref a :: As) h q) (hw : sm_cI M Y idx n) (hd : decode M.2.1 pc = .ok (.invokespecial idx, 3)) (hst : st = As.reverse ++ .ref a :: st0) (hA : As.length = n) (hdd : dY + 1 ≤ d) (hml : Y.2.2.1 ≤ 21) (hsum : sm_sum st0 ≤ 8)
    (k : sm_At p l e R s m args below meth c b ba D dA M.2.2.1 true rc rs Q (pc + 3) L (q.1.toList ++ st0) q.2) : sm_At p l e R s m args below meth c b ba D dA M.2.2.1 true (rc + mc') (rs + ms') Q pc L st h := by
  obtain ⟨wn, hret, hin, w1, w2, w4, w5⟩ := hw
  subst hst
  rcases w1 with w1 | ⟨host, w1⟩
  · exact jm_callI hR hC hd wn hA hret hin w1 w2 w4 w5 hdd hml hsum k
  · exact jm_callIN hR hC hd wn hA hret hin w1 w2 w4 w5 hdd hml hsum k
end SMB
/-! THE ENTRY: what the tables say of classes and arrays -/
theorem sm_arrP {s : State} {cA comp : ClassId} {kA : Class} {ty : FieldType} (h2 : s.vm.classes[cA]? = some kA) (h3 : kA.kind = .array comp ty) : ArrOfT s cA ty := fun n z => ⟨fun k h => (by cases h), kA, h2, comp, h3⟩
theorem sm_arrC {s : State} {args : Array Value} {ty : FieldType} (h : (Cond.arrayClass ty).before args s = true) : ∃ cA : ClassId, ArrOfT s cA ty ∧ s.vm.findClass ("[" ++ ty.toString) = some cA := by
  obtain ⟨cA, k, comp, h1, h2, h3⟩ := Cond.arrayClass_spec h
  exact ⟨cA, sm_arrP h2 h3, h1⟩
theorem sm_arrO {s : State} {args : Array Value} {C : String} (h : (Cond.arrayOver (.object C)).before args s = true) : ∃ cA : ClassId, ArrOfT s cA (.object C) ∧ va_RA s cA (.object C) := by
  obtain ⟨comp, cA, k, h1, h2, h3, h4, h5⟩ := Cond.arrayOver_spec h
  exact ⟨cA, sm_arrP h3 h4, k, comp, h3, h4, h1, h5⟩
theorem sm_arrA {s : State} {args : Array Value} {ty : FieldType} (h : (Cond.arrayOver (.array ty)).before args s = true) : ∃ cA : ClassId, ArrOfT s cA (.array ty) ∧ s.vm.findClass ("[" ++ (FieldType.array ty).toString) = some cA := by
  obtain ⟨comp, cA, k, h1, h2, h3, h4, h5⟩ := arrayOverA_spec h
  exact ⟨cA, sm_arrP h3 h4, h5⟩
theorem sm_enter {s : State} {args : Array Value} (hts : ∀ w ∈ lw_tbl, w.before args s = true) : ∃ (D : va_G) (dA : Nat → ClassId), sm_KK D dA s := by
  have hG : ∀ w ∈ sm_G, w.before args s = true := fun w hw => hts w (List.mem_filter.mp hw).1
  have hcl : ∀ q ∈ vwCl, ∃ x : ClassId × (Nat → Nat), u_Kn s q.1 q.2.1 q.2.2 x.1 x.2 := by
    have one : ∀ {C : String} {T : u_T} {N n : Nat}, (∀ w ∈ u_ws C T N, w ∈ sm_G) → Cond.instantiable C n ∈ sm_G → ∃ x : ClassId × (Nat → Nat), u_Kn s C T N x.1 x.2 := fun h1 h2 => by
      obtain ⟨cC, iS, h⟩ := u_known hG h1 (hG _ h2)
      exact ⟨(cC, iS), h⟩
    exact List.forall_mem_cons.mpr ⟨one uX0 wN0, List.forall_mem_cons.mpr ⟨one uX1 wN1, List.forall_mem_cons.mpr ⟨one uX2 wN2, List.forall_mem_cons.mpr ⟨one uX3 wN3, List.forall_mem_cons.mpr ⟨one uX4 wN4, List.forall_mem_cons.mpr ⟨one uX5 wN5, List.forall_mem_cons.mpr ⟨one uX6 wN6, List.forall_mem_cons.mpr ⟨one uX7 wN7, List.forall_mem_cons.mpr ⟨one uX8 wN8, List.forall_mem_cons.mpr ⟨one uX9 wN9, List.forall_mem_cons.mpr ⟨one uX10 wN10, List.forall_mem_cons.mpr ⟨one uX11 wN11, List.forall_mem_cons.mpr ⟨one uX12 wN12, fun _ h => absurd h List.not_mem_nil⟩⟩⟩⟩⟩⟩⟩⟩⟩⟩⟩⟩⟩
  have h0 : ∀ c : Nat, ∃ x : ClassId × (Nat → Nat), ∀ q : vw_C, vwCl[c]? = some q → u_Kn s q.1 q.2.1 q.2.2 x.1 x.2 := by
    intro c
    cases hq : vwCl[c]? with
    | none => exact ⟨(0, fun _ => 0), fun q h => by cases h⟩
    | some q =>
      obtain ⟨x, hx⟩ := hcl q (List.mem_of_getElem? hq)
      exact ⟨x, fun q' h => by cases h; exact hx⟩
  obtain ⟨f, hf⟩ := Classical.axiomOfChoice h0
  have wTour : Cond.arrayOver (.object "NoHedgeTwice$Tour") ∈ lw_tbl := List.mem_of_getElem? (i := 303) (by decide +kernel)
  have wSpot : Cond.arrayOver (.object "NoHedgeTwice$Spot") ∈ lw_tbl := List.mem_of_getElem? (i := 411) (by decide +kernel)
  have wAA : Cond.arrayOver (.array .int) ∈ lw_tbl := List.mem_of_getElem? (i := 359) (by decide +kernel)
  have hty : ∀ q ∈ sm_tags, ∃ cA : ClassId, ArrOfT s cA q.2 ∧ va_RA s cA q.2 :=
    List.forall_mem_cons.mpr ⟨sm_arrC (hG _ wA_int), List.forall_mem_cons.mpr ⟨sm_arrC (hG _ wA_long), List.forall_mem_cons.mpr ⟨sm_arrC (hG _ wA_char), List.forall_mem_cons.mpr ⟨sm_arrC (hG _ wA_boolean), List.forall_mem_cons.mpr ⟨sm_arrA (hts _ wAA), List.forall_mem_cons.mpr ⟨sm_arrO (hts _ wTour), List.forall_mem_cons.mpr ⟨sm_arrO (hts _ wSpot), fun _ h => absurd h List.not_mem_nil⟩⟩⟩⟩⟩⟩⟩
  have hun : ∀ q ∈ sm_tags, ∀ q' ∈ sm_tags, q.1 = q'.1 → q = q' := by decide
  have h1 : ∀ t : Nat, ∃ cA : ClassId, ∀ q ∈ sm_tags, q.1 = t → ArrOfT s cA q.2 ∧ va_RA s cA q.2 := by
    intro t
    by_cases ht : ∃ q, q ∈ sm_tags ∧ q.1 = t
    · obtain ⟨q, hq, hqt⟩ := ht
      obtain ⟨cA, h⟩ := hty q hq
      exact ⟨cA, fun q' hq' hqt' => by rw [hun q' hq' q hq (hqt'.trans hqt.symm)]; exact h⟩
    · exact ⟨0, fun q hq hqt => absurd ⟨q, hq, hqt⟩ ht⟩
  obtain ⟨g, hg⟩ := Classical.axiomOfChoice h1
  refine ⟨(fun c => (f c).1, fun c => (f c).2), g, ⟨fun c q hq => hf c q hq, fun k q hq => ?_⟩, fun w hw => ?_, ?_, ?_⟩
  · unfold sm_tys at hq
    rw [List.getElem?_map] at hq
    cases hk : sm_tags[k]? with
    | none => rw [hk] at hq; cases hq
    | some y =>
      rw [hk] at hq
      cases hq
      exact hg y.1 y (List.mem_of_getElem? hk) rfl
  · have h2 : sm_isN w = true := (List.mem_filter.mp hw).2
    have h3 := hts w (List.mem_filter.mp hw).1
    cases w <;> first | exact va_Nw.of rfl h3 | cases h2
  · exact List.forall_mem_cons.mpr ⟨va_AO.of (hts _ wTour), List.forall_mem_cons.mpr ⟨va_AO.of (hts _ wSpot), fun _ h => absurd h List.not_mem_nil⟩⟩
  · exact hts _ wAA
def R_law : String := "NoHedgeTwiceLaw"
def lw_P (b : Addr) (xs : List Int32) (args : Array Value) (s : State) : Prop := args = #[.ref b] ∧ s.IntsAt b xs ∧ xs.length ≤ 2560 ∧ (Jvm.Cond.and given_1 narrow_1).before args s = true
def lw_Q (_ : Array Value) (s : State) (o : Outcome) (t : State) : Prop := o = .returned (some (.int 1)) ∧ Framed s o t [] 601024 7293033
def lw_Z (below : List Frame) (a : Array Value) (s : State) : State → Prop := fun t => ∃ o, t.status = .running ∧ Ended t below o ∧ lw_Q a s o t
/-- the law's own end, with 1 on the stack, nothing written that was there before, its room as the claim has it -/
theorem lw_ret {p : Program} {l : Launch} {e : Env} {s : State} {m : MethodId} {below : List Frame} {meth : Method} {c : Code} {b : Nat} (hx : p.tables.exec = Jvm.exec) (hb : c.code = code) (hr : meth.sig.returnType = ret) (hlocks : meth.locks = false) {pc : Nat} {H : Heap} {ls : Array Slot} (hdg : decode code pc = .ok (.ireturn, 1)) : W p l e room_1 s m #[Value.ref b] below meth c H [] 601024 7293033 (lw_Z below #[Value.ref b] s) (F0 m pc ls [.int 1]) := by
  intro T hT X
  obtain ⟨fs, hret, hrun, hended, hW, hframe⟩ := X.leave (v := some (.int 1)) (hlocks := hlocks) (fun h => by rw [hr] at h; cases h)
  have hmeth' : T.vm.method? m = some meth := X.method'
  refine ⟨T.setFrames fs, ?_, .returned (some (.int 1)), hrun, hended, rfl, ⟨_, rfl⟩, hW, hframe⟩
  jvm_step X.here [X.here.top, hx, hb, hdg, hmeth', hr, ret, narrow_b1]
  (try refine ⟨rfl, ?_⟩); (try refine ⟨rfl, ?_⟩)
  first | (intro acts; rw [hret _ acts rfl rfl rfl]) | rw [hret _ _ rfl rfl rfl]
  exact Steps.refl _
/-- what holds at the law's entry: the machine, the code, the tables' words (any of lw_tbl by 'hts w (by decide +kernel)'), the script of L ints xs at the cell b, what the Statement gives of the start (any of its parts by flat_of_before) -/
def lw_At (p : Program) (s : State) (m : MethodId) (meth : Method) (c : Code) (b L : Nat) (xs : Nat → Int32) : Prop :=
  p.tables.exec = Jvm.exec ∧ c.code = code ∧ meth.sig.returnType = ret ∧ c.maxLocals = 7 ∧ s.vm.findClass R_law = some m.cls ∧ (∀ w ∈ lw_tbl, w.before #[Value.ref b] s = true) ∧ va_X b L xs s s.heap ∧ b < s.heap.size ∧ meth.locks = false ∧ (Jvm.Cond.and given_1 narrow_1).before #[Value.ref b] s = true
theorem sm_xf0 {s : State} {args : Array Value} (hts : ∀ w ∈ lw_tbl, w.before args s = true) (hg : (Jvm.Cond.and given_1 narrow_1).before args s = true) : sm_XF s.heap.size s := by
  have hs := flat_of_before _ hg
  have hA : ∀ a : Nat, a < s.heap.size → ¬ s.heap.size ≤ a := fun a h => Nat.not_le.mpr h
  have str : ∀ (k : Nat) (tx : String), Cond.stringRef RX11 k tx ∈ lw_tbl → (Cond.exactly (.string RX11 k) "java/lang/String").before args s = true → ∃ a, vk_R RX11 k tx a s := by
    intro k tx h1 h2
    obtain ⟨a, c, cA, kA, q1, -⟩ := Cond.exactly_spec (args := args) (first := s) (o := none) (s := s) (idx := []) (t := .string RX11 k) (cls := "java/lang/String") h2
    exact ⟨a, vk_R.of (hts _ h1) q1⟩
  have hI : (Cond.initialized "java/lang/Throwable").before args s = true := hts _ (by decide +kernel)
  refine ⟨str 110 _ (by decide +kernel) (hs _ (by decide +kernel)), str 327 _ (by decide +kernel) (hs _ (by decide +kernel)), str 375 _ (by decide +kernel) (hs _ (by decide +kernel)), vx_Zqof (hts _ (by decide +kernel)) hI (hs _ (by decide +kernel)) hA, vx_Zqof (hts _ (by decide +kernel)) hI (hs _ (by decide +kernel)) hA, fun w hw => ?_⟩
  have h2 : sm_isC w = true := (List.mem_filter.mp hw).2
  have h3 := hts w (List.mem_filter.mp hw).1
  cases w <;> first | exact va_Nw.of rfl h3 | cases h2
set_option maxRecDepth 20000 in
theorem sm_begin {p : Program} {e : Env} {s : State} {m : MethodId} {below : List Frame} {meth : Method} {c : Code} (l : Launch) (hl : l.stackTraces = false) {b Ls n : Nat} {xs : Nat → Int32} (hn : n ≤ 1000) (C0 : lw_At p s m meth c b Ls xs) (hf : fL_law Ls xs n 0 sm_m0 = some ()) :
    W p l e room_1 s m #[Value.ref b] below meth c s.heap [] 0 0 (lw_Z below #[Value.ref b] s) (entryFrame m ([Value.ref b] : List Value).toArray 7) := by
  obtain ⟨c1, c2, c3, c4, c5, c6, c7, c8, c9, c10⟩ := C0
  have hG : ∀ w ∈ sm_G, w.before #[Value.ref b] s = true := fun w hw => c6 w (List.mem_filter.mp hw).1
  obtain ⟨D, dA, hK⟩ := sm_enter c6
  have hC : sm_C p room_1 s m #[Value.ref b] meth c (sm_ML meth.name) 20 D dA := ⟨c1, c2, c4, c5, hG, c3, c9, rfl, hK, by decide, by decide⟩
  have hX : sm_XF s.heap.size s := sm_xf0 c6 c10
  have hE : ∀ (L : List Value) (h : sm_H), sm_At p l e room_1 s m #[Value.ref b] below meth c b s.heap.size D dA (sm_ML meth.name).2.2.1 false 0 0 (lw_Z below #[Value.ref b] s) 1168 L [.int 1] h := by
    intro L h H locs cells slots ls hP hS hH hl9 h1 h2
    have z1 : cells + 0 ≤ 601024 := h1
    have z2 : slots + 0 ≤ 7293033 := h2
    refine va_forget hS.2.2 (W.widen (k := 601024) (n := 7293033) (by omega) (by omega) ?_)
    exact lw_ret c1 c2 c3 c9 dL_law_1168
  have K : sm_At p l e room_1 s m #[Value.ref b] below meth c b s.heap.size D dA (sm_ML meth.name).2.2.1 true (n + 108) (6 * n + 174522) (lw_Z below #[Value.ref b] s) 0 [.retAddr 1, .retAddr 0, .retAddr 0, .retAddr 0, .retAddr 0, .retAddr 0, .retAddr 0] [] hz0 := by
    refine jm_new (ci := 11) (N := 13) (rc := n + 107) (rs := 6 * n + 174509) hC kX11 dL_law_0 wCL_8 wN11 wIX11 zX11 ?_
    show sm_At p l e room_1 s m #[Value.ref b] below meth c b s.heap.size D dA (sm_ML meth.name).2.2.1 true (n + 107) (6 * n + 174509) (lw_Z below #[Value.ref b] s) 3 [.retAddr 1, .retAddr 0, .retAddr 0, .retAddr 0, .retAddr 0, .retAddr 0, .retAddr 0] [.ref 0] hz1
    refine j_blk hC bL_law_3 [.retAddr 1, .retAddr 0, .retAddr 0, .retAddr 0, .retAddr 0, .retAddr 0, .retAddr 0] [.ref 0, .ref 0] hz1 [] rfl sm_on ?_
    refine j_callI [] [.ref 0] (n + 36) (6 * n + 164604) hC nX11_init_0 (ciL_22 rfl) dL_law_4 rfl rfl (by decide) (by decide) (Nat.le_of_ble_eq_true rfl) ?_
    show sm_At p l e room_1 s m #[Value.ref b] below meth c b s.heap.size D dA (sm_ML meth.name).2.2.1 true (n + 36) (6 * n + 164604) (lw_Z below #[Value.ref b] s) 7 [.retAddr 1, .retAddr 0, .retAddr 0, .retAddr 0, .retAddr 0, .retAddr 0, .retAddr 0] [.ref 0] hz217
    refine j_blk hC bL_law_7 [.retAddr 1, .ref 0, .retAddr 0, .retAddr 0, .retAddr 0, .retAddr 0, .retAddr 0] [] hz217 [] rfl sm_on ?_
    refine jm_new (ci := 12) (N := 57) (rc := n + 35) (rs := 6 * n + 164547) hC kX12 dL_law_8 wCL_23 wN12 wIX12 zX12 ?_
    show sm_At p l e room_1 s m #[Value.ref b] below meth c b s.heap.size D dA (sm_ML meth.name).2.2.1 true (n + 35) (6 * n + 164547) (lw_Z below #[Value.ref b] s) 11 [.retAddr 1, .ref 0, .retAddr 0, .retAddr 0, .retAddr 0, .retAddr 0, .retAddr 0] [.ref 72] hz218
    refine j_blk hC bL_law_11 [.retAddr 1, .ref 0, .retAddr 0, .retAddr 0, .retAddr 0, .retAddr 0, .retAddr 0] [.ref 72, .ref 72] hz218 [] rfl sm_on ?_
    refine j_callI [] [.ref 72] (n + 1) (6 * n + 1) hC nX12_init_72 (ciL_25 rfl) dL_law_12 rfl rfl (by decide) (by decide) (Nat.le_of_ble_eq_true rfl) ?_
    show sm_At p l e room_1 s m #[Value.ref b] below meth c b s.heap.size D dA (sm_ML meth.name).2.2.1 true (n + 1) (6 * n + 1) (lw_Z below #[Value.ref b] s) 15 [.retAddr 1, .ref 0, .retAddr 0, .retAddr 0, .retAddr 0, .retAddr 0, .retAddr 0] [.ref 72] hz286
    refine j_blk hC bL_law_15 [.retAddr 1, .ref 0, .ref 72, .retAddr 0, .retAddr 0, .retAddr 0, .retAddr 0] [.int (1 : Int32)] hz286 [] rfl sm_on ?_
    refine jm_newarr (t := 101) (i0 := 1) (N := 1) (rc := n) (rs := 6 * n) hC dL_law_17 rfl wA_long (by decide) (by decide) (by decide) (fun _ h => h) (by decide) (fun cA => sm_enz_l cA) ?_
    show sm_At p l e room_1 s m #[Value.ref b] below meth c b s.heap.size D dA (sm_ML meth.name).2.2.1 true n (6 * n) (lw_Z below #[Value.ref b] s) 19 [.retAddr 1, .ref 0, .ref 72, .retAddr 0, .retAddr 0, .retAddr 0, .retAddr 0] [.ref 107] hz287
    refine sm_At.noal ?_
    refine sm_At.heap (h' := sm_hp sm_m0) rfl sm_heap0 ?_
    refine j_blk hC bL_law_19 [.retAddr 1, .ref 0, .ref 72, .ref 107, .int (0 : Int32), .retAddr 0, .retAddr 0] [] (sm_hp sm_m0) [] rfl sm_on ?_
    exact tL_law hl hC hX c7 c8 c8 hE n 0 sm_m0 hf
  have hl0 := lv_entry [Value.ref b] (n := 7) (by show 1 ≤ 7; decide)
  rw [lg_entry_eq]
  exact K s.heap [] 0 0 _ (fun k q hk => by cases hk) va_S.rf (fun _ => rfl) ⟨hl0.1, hl0.2.1, fun q hq => hl0.2.2 q (sm_e0_args (b := b) (ba := s.heap.size) [.retAddr 1] 7 q hq)⟩ (by show 0 + (n + 108) ≤ 601024; omega) (by show 0 + (6 * n + 174522) ≤ 7293033; omega)
