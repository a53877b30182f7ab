def fL_law (Ls : Nat) (xs : Nat → Int32) : Nat → Int32 → sm_S → Option Unit
  | 0, _, _ => none
  | n + 1, v4, m =>
  if ((Int32.ofNat Ls) - (5 : Int32)) < v4 then (some ()) else (if sm_ix v4 Ls then (if ((xs (v4).toNatClampNeg) &&& (63 : Int32)) = (0 : Int32) then (if sm_ix (v4 + (1 : Int32)) Ls then ((fX11_sign (xs (v4 + (1 : Int32)).toNatClampNeg) m).bind fun r5 => if sm_ix (v4 + (1 : Int32)) Ls then ((fX12_sign (xs (v4 + (1 : Int32)).toNatClampNeg) r5.2).bind fun r8 => fL_law Ls xs n (v4 + (5 : Int32)) r8.2) else none) else none) else (if ((xs (v4).toNatClampNeg) &&& (63 : Int32)) = (1 : Int32) then (if sm_ix (v4 + (1 : Int32)) Ls then ((fX11_end (xs (v4 + (1 : Int32)).toNatClampNeg) m).bind fun r12 => if sm_ix (v4 + (1 : Int32)) Ls then ((fX12_end (xs (v4 + (1 : Int32)).toNatClampNeg) r12.2).bind fun r15 => fL_law Ls xs n (v4 + (5 : Int32)) r15.2) else none) else none) else (if ((xs (v4).toNatClampNeg) &&& (63 : Int32)) = (2 : Int32) then ((fX11_land m).bind fun r18 => (fX12_land r18.2).bind fun r20 => fL_law Ls xs n (v4 + (5 : Int32)) r20.2) else (if ((xs (v4).toNatClampNeg) &&& (63 : Int32)) = (3 : Int32) then (if sm_ix (v4 + (1 : Int32)) Ls then (if sm_ix (v4 + (2 : Int32)) Ls then ((fL_hedge (xs (v4 + (1 : Int32)).toNatClampNeg) (xs (v4 + (2 : Int32)).toNatClampNeg) m).bind fun r24 => if sm_ix (v4 + (1 : Int32)) Ls then (if sm_ix (v4 + (2 : Int32)) Ls then ((fX12_hedge (xs (v4 + (1 : Int32)).toNatClampNeg) (xs (v4 + (2 : Int32)).toNatClampNeg) r24.2).bind fun r29 => fL_law Ls xs n (v4 + (5 : Int32)) r29.2) else none) else none) else none) else none) else (if ((xs (v4).toNatClampNeg) &&& (63 : Int32)) = (4 : Int32) then (if sm_ix (v4 + (1 : Int32)) Ls then (if sm_ix (v4 + (2 : Int32)) Ls then ((fX11_grass (xs (v4 + (1 : Int32)).toNatClampNeg) (xs (v4 + (2 : Int32)).toNatClampNeg) m).bind fun r34 => if sm_ix (v4 + (1 : Int32)) Ls then (if sm_ix (v4 + (2 : Int32)) Ls then ((fX12_grass (xs (v4 + (1 : Int32)).toNatClampNeg) (xs (v4 + (2 : Int32)).toNatClampNeg) m).bind fun r38 => fL_law Ls xs n (v4 + (5 : Int32)) r38.2) else none) else none) else none) else none) else (if ((xs (v4).toNatClampNeg) &&& (63 : Int32)) = (5 : Int32) then (if sm_ix (v4 + (1 : Int32)) Ls then (if sm_ix (v4 + (2 : Int32)) Ls then (if sm_ix (v4 + (3 : Int32)) Ls then ((fX11_set (xs (v4 + (1 : Int32)).toNatClampNeg) (xs (v4 + (2 : Int32)).toNatClampNeg) (xs (v4 + (3 : Int32)).toNatClampNeg) m).bind fun r44 => if sm_ix (v4 + (1 : Int32)) Ls then (if sm_ix (v4 + (2 : Int32)) Ls then (if sm_ix (v4 + (3 : Int32)) Ls then ((fX12_set (xs (v4 + (1 : Int32)).toNatClampNeg) (xs (v4 + (2 : Int32)).toNatClampNeg) (xs (v4 + (3 : Int32)).toNatClampNeg) r44.2).bind fun r49 => fL_law Ls xs n (v4 + (5 : Int32)) r49.2) else none) else none) else none) else none) else none) else none) else (if ((xs (v4).toNatClampNeg) &&& (63 : Int32)) = (6 : Int32) then (if sm_ix (v4 + (1 : Int32)) Ls then (if sm_ix (v4 + (2 : Int32)) Ls then (if sm_ix (v4 + (3 : Int32)) Ls then (if sm_ix (v4 + (4 : Int32)) Ls then ((fX11_sheet (xs (v4 + (1 : Int32)).toNatClampNeg) (xs (v4 + (2 : Int32)).toNatClampNeg) (xs (v4 + (3 : Int32)).toNatClampNeg) (xs (v4 + (4 : Int32)).toNatClampNeg) m).bind fun r56 => if sm_ix (v4 + (1 : Int32)) Ls then (if sm_ix (v4 + (2 : Int32)) Ls then (if sm_ix (v4 + (3 : Int32)) Ls then (if sm_ix (v4 + (4 : Int32)) Ls then ((fX12_sheet (xs (v4 + (1 : Int32)).toNatClampNeg) (xs (v4 + (2 : Int32)).toNatClampNeg) (xs (v4 + (3 : Int32)).toNatClampNeg) (xs (v4 + (4 : Int32)).toNatClampNeg) r56.2).bind fun r62 => fL_law Ls xs n (v4 + (5 : Int32)) r62.2) else none) else none) else none) else none) else none) else none) else none) else none) else (if ((xs (v4).toNatClampNeg) &&& (63 : Int32)) = (7 : Int32) then (if sm_ix (v4 + (1 : Int32)) Ls then ((fX11_walk (xs (v4 + (1 : Int32)).toNatClampNeg) m).bind fun r66 => if sm_ix (v4 + (1 : Int32)) Ls then ((fX12_walk (xs (v4 + (1 : Int32)).toNatClampNeg) r66.2).bind fun r69 => fL_law Ls xs n (v4 + (5 : Int32)) r69.2) else none) else none) else (if ((xs (v4).toNatClampNeg) &&& (63 : Int32)) = (8 : Int32) then (if sm_ix (v4 + (1 : Int32)) Ls then ((fX11_rest (xs (v4 + (1 : Int32)).toNatClampNeg) m).bind fun r73 => if sm_ix (v4 + (1 : Int32)) Ls then ((fX12_rest (xs (v4 + (1 : Int32)).toNatClampNeg) r73.2).bind fun r76 => fL_law Ls xs n (v4 + (5 : Int32)) r76.2) else none) else none) else (if ((xs (v4).toNatClampNeg) &&& (63 : Int32)) = (9 : Int32) then ((fX11_undo m).bind fun r79 => (fX12_undo r79.2).bind fun r81 => fL_law Ls xs n (v4 + (5 : Int32)) r81.2) else (if ((xs (v4).toNatClampNeg) &&& (63 : Int32)) = (10 : Int32) then (if sm_ix (v4 + (1 : Int32)) Ls then ((fX11_go (xs (v4 + (1 : Int32)).toNatClampNeg) m).bind fun r85 => if sm_ix (v4 + (1 : Int32)) Ls then ((fX12_go (xs (v4 + (1 : Int32)).toNatClampNeg) r85.2).bind fun r88 => fL_law Ls xs n (v4 + (5 : Int32)) r88.2) else none) else none) else (if ((xs (v4).toNatClampNeg) &&& (63 : Int32)) = (11 : Int32) then ((fX11_can m).bind fun r91 => (fX12_can m).bind fun r93 => fL_law Ls xs n (v4 + (5 : Int32)) r93.2) else (if ((xs (v4).toNatClampNeg) &&& (63 : Int32)) = (12 : Int32) then (if sm_ix (v4 + (1 : Int32)) Ls then ((fX11_tour (xs (v4 + (1 : Int32)).toNatClampNeg) m).bind fun r97 => if sm_ix (v4 + (1 : Int32)) Ls then ((fX12_tour (xs (v4 + (1 : Int32)).toNatClampNeg) r97.2).bind fun r100 => fL_law Ls xs n (v4 + (5 : Int32)) r100.2) else none) else none) else (if ((xs (v4).toNatClampNeg) &&& (63 : Int32)) = (13 : Int32) then (if sm_ix (v4 + (1 : Int32)) Ls then ((fX11_look (xs (v4 + (1 : Int32)).toNatClampNeg) m).bind fun r104 => if sm_ix (v4 + (1 : Int32)) Ls then ((fX12_look (xs (v4 + (1 : Int32)).toNatClampNeg) r104.2).bind fun r107 => fL_law Ls xs n (v4 + (5 : Int32)) r107.2) else none) else none) else (if ((xs (v4).toNatClampNeg) &&& (63 : Int32)) = (14 : Int32) then (if sm_ix (v4 + (1 : Int32)) Ls then ((fX11_meets (xs (v4 + (1 : Int32)).toNatClampNeg) m).bind fun r111 => if sm_ix (v4 + (1 : Int32)) Ls then ((fX12_meets (xs (v4 + (1 : Int32)).toNatClampNeg) r111.2).bind fun r114 => fL_law Ls xs n (v4 + (5 : Int32)) r114.2) else none) else none) else (if ((xs (v4).toNatClampNeg) &&& (63 : Int32)) = (15 : Int32) then ((fX11_apart m).bind fun r117 => (fX12_apart r117.2).bind fun r119 => if r117.1 = r119.1 then (fL_law Ls xs n (v4 + (5 : Int32)) r119.2) else none) else (if ((xs (v4).toNatClampNeg) &&& (63 : Int32)) = (16 : Int32) then (if sm_ix (v4 + (1 : Int32)) Ls then ((fX11_season (xs (v4 + (1 : Int32)).toNatClampNeg) m).bind fun r123 => if sm_ix (v4 + (1 : Int32)) Ls then ((fX12_season (xs (v4 + (1 : Int32)).toNatClampNeg) r123.2).bind fun r126 => fL_law Ls xs n (v4 + (5 : Int32)) r126.2) else none) else none) else (if ((xs (v4).toNatClampNeg) &&& (63 : Int32)) = (17 : Int32) then ((fX11_odd m).bind fun r129 => (fX12_odd r129.2).bind fun r131 => fL_law Ls xs n (v4 + (5 : Int32)) r131.2) else (if ((xs (v4).toNatClampNeg) &&& (63 : Int32)) = (18 : Int32) then ((fX11_men m).bind fun r134 => (fX12_men r134.2).bind fun r136 => fL_law Ls xs n (v4 + (5 : Int32)) r136.2) else (if ((xs (v4).toNatClampNeg) &&& (63 : Int32)) = (19 : Int32) then (if sm_ix (v4 + (1 : Int32)) Ls then ((fX11_trail (xs (v4 + (1 : Int32)).toNatClampNeg) m).bind fun r140 => if sm_ix (v4 + (1 : Int32)) Ls then ((fX12_trail (xs (v4 + (1 : Int32)).toNatClampNeg) r140.2).bind fun r143 => fL_law Ls xs n (v4 + (5 : Int32)) r143.2) else none) else none) else (if ((xs (v4).toNatClampNeg) &&& (63 : Int32)) = (20 : Int32) then ((fX11_round m).bind fun r146 => (fX12_round r146.2).bind fun r148 => fL_law Ls xs n (v4 + (5 : Int32)) r148.2) else (if ((xs (v4).toNatClampNeg) &&& (63 : Int32)) = (21 : Int32) then ((fX11_closed m).bind fun r151 => (fX12_closed r151.2).bind fun r153 => fL_law Ls xs n (v4 + (5 : Int32)) r153.2) else (if ((xs (v4).toNatClampNeg) &&& (63 : Int32)) = (22 : Int32) then ((fX11_open m).bind fun r156 => (fX12_open r156.2).bind fun r158 => fL_law Ls xs n (v4 + (5 : Int32)) r158.2) else (if ((xs (v4).toNatClampNeg) &&& (63 : Int32)) = (23 : Int32) then (if sm_ix (v4 + (1 : Int32)) Ls then (if sm_ix (v4 + (2 : Int32)) Ls then ((fX11_most (xs (v4 + (1 : Int32)).toNatClampNeg) (xs (v4 + (2 : Int32)).toNatClampNeg) m).bind fun r163 => if sm_ix (v4 + (1 : Int32)) Ls then (if sm_ix (v4 + (2 : Int32)) Ls then ((fX12_most (xs (v4 + (1 : Int32)).toNatClampNeg) (xs (v4 + (2 : Int32)).toNatClampNeg) r163.2).bind fun r167 => fL_law Ls xs n (v4 + (5 : Int32)) r167.2) else none) else none) else none) else none) else (if ((xs (v4).toNatClampNeg) &&& (63 : Int32)) = (24 : Int32) then (if sm_ix (v4 + (1 : Int32)) Ls then (if sm_ix (v4 + (2 : Int32)) Ls then ((fX11_home (xs (v4 + (1 : Int32)).toNatClampNeg) (xs (v4 + (2 : Int32)).toNatClampNeg) m).bind fun r172 => if sm_ix (v4 + (1 : Int32)) Ls then (if sm_ix (v4 + (2 : Int32)) Ls then ((fX12_home (xs (v4 + (1 : Int32)).toNatClampNeg) (xs (v4 + (2 : Int32)).toNatClampNeg) r172.2).bind fun r176 => fL_law Ls xs n (v4 + (5 : Int32)) r176.2) else none) else none) else none) else none) else (if ((xs (v4).toNatClampNeg) &&& (63 : Int32)) = (25 : Int32) then (if sm_ix (v4 + (1 : Int32)) Ls then (if sm_ix (v4 + (2 : Int32)) Ls then ((fX11_soon (xs (v4 + (1 : Int32)).toNatClampNeg) (xs (v4 + (2 : Int32)).toNatClampNeg) m).bind fun r181 => if sm_ix (v4 + (1 : Int32)) Ls then (if sm_ix (v4 + (2 : Int32)) Ls then ((fX12_soon (xs (v4 + (1 : Int32)).toNatClampNeg) (xs (v4 + (2 : Int32)).toNatClampNeg) r181.2).bind fun r185 => fL_law Ls xs n (v4 + (5 : Int32)) r185.2) else none) else none) else none) else none) else (if ((xs (v4).toNatClampNeg) &&& (63 : Int32)) = (26 : Int32) then ((fX11_bridges m).bind fun r188 => (fX12_bridges m).bind fun r190 => fL_law Ls xs n (v4 + (5 : Int32)) r190.2) else (if ((xs (v4).toNatClampNeg) &&& (63 : Int32)) = (27 : Int32) then (if sm_ix (v4 + (1 : Int32)) Ls then ((fL_reach (xs (v4 + (1 : Int32)).toNatClampNeg) m).bind fun r193 => if sm_ix (v4 + (1 : Int32)) Ls then ((fX12_reach (xs (v4 + (1 : Int32)).toNatClampNeg) r193.2).bind fun r197 => fL_law Ls xs n (v4 + (5 : Int32)) r197.2) else none) else none) else (if ((xs (v4).toNatClampNeg) &&& (63 : Int32)) = (28 : Int32) then (if sm_ix (v4 + (1 : Int32)) Ls then ((fX11_gates (xs (v4 + (1 : Int32)).toNatClampNeg) m).bind fun r201 => if sm_ix (v4 + (1 : Int32)) Ls then ((fX12_gates (xs (v4 + (1 : Int32)).toNatClampNeg) r201.2).bind fun r204 => fL_law Ls xs n (v4 + (5 : Int32)) r204.2) else none) else none) else (if ((xs (v4).toNatClampNeg) &&& (63 : Int32)) = (29 : Int32) then (if sm_ix (v4 + (1 : Int32)) Ls then (if sm_ix (v4 + (2 : Int32)) Ls then ((fX11_heard (xs (v4 + (1 : Int32)).toNatClampNeg) (xs (v4 + (2 : Int32)).toNatClampNeg) m).bind fun r209 => if sm_ix (v4 + (1 : Int32)) Ls then (if sm_ix (v4 + (2 : Int32)) Ls then ((fX12_heard (xs (v4 + (1 : Int32)).toNatClampNeg) (xs (v4 + (2 : Int32)).toNatClampNeg) r209.2).bind fun r213 => fL_law Ls xs n (v4 + (5 : Int32)) r213.2) else none) else none) else none) else none) else (if ((xs (v4).toNatClampNeg) &&& (63 : Int32)) = (30 : Int32) then ((fX11_forget m).bind fun r216 => (fX12_forget r216.2).bind fun r218 => fL_law Ls xs n (v4 + (5 : Int32)) r218.2) else (if ((xs (v4).toNatClampNeg) &&& (63 : Int32)) = (31 : Int32) then ((fX11_lands m).bind fun r221 => (fX12_lands r221.2).bind fun r223 => fL_law Ls xs n (v4 + (5 : Int32)) r223.2) else (if ((xs (v4).toNatClampNeg) &&& (63 : Int32)) = (32 : Int32) then ((fX11_sure m).bind fun r226 => (fX12_sure r226.2).bind fun r228 => fL_law Ls xs n (v4 + (5 : Int32)) r228.2) else (if ((xs (v4).toNatClampNeg) &&& (63 : Int32)) = (33 : Int32) then ((fX11_next m).bind fun r231 => (fX12_next r231.2).bind fun r233 => fL_law Ls xs n (v4 + (5 : Int32)) r233.2) else (if ((xs (v4).toNatClampNeg) &&& (63 : Int32)) = (34 : Int32) then ((fX11_lies m).bind fun r236 => (fX12_lies r236.2).bind fun r238 => fL_law Ls xs n (v4 + (5 : Int32)) r238.2) else (if ((xs (v4).toNatClampNeg) &&& (63 : Int32)) = (35 : Int32) then ((fX11_quarrel m).bind fun r241 => (fX12_quarrel r241.2).bind fun r243 => fL_law Ls xs n (v4 + (5 : Int32)) r243.2) else (if ((xs (v4).toNatClampNeg) &&& (63 : Int32)) = (36 : Int32) then (if sm_ix (v4 + (1 : Int32)) Ls then ((fX11_keep (xs (v4 + (1 : Int32)).toNatClampNeg) m).bind fun r247 => if sm_ix (v4 + (1 : Int32)) Ls then ((fX12_keep (xs (v4 + (1 : Int32)).toNatClampNeg) r247.2).bind fun r250 => fL_law Ls xs n (v4 + (5 : Int32)) r250.2) else none) else none) else (if ((xs (v4).toNatClampNeg) &&& (63 : Int32)) = (37 : Int32) then (if sm_ix (v4 + (1 : Int32)) Ls then ((fX11_again (xs (v4 + (1 : Int32)).toNatClampNeg) m).bind fun r254 => if sm_ix (v4 + (1 : Int32)) Ls then ((fX12_again (xs (v4 + (1 : Int32)).toNatClampNeg) r254.2).bind fun r257 => fL_law Ls xs n (v4 + (5 : Int32)) r257.2) else none) else none) else (if ((xs (v4).toNatClampNeg) &&& (63 : Int32)) = (38 : Int32) then (if sm_ix (v4 + (1 : Int32)) Ls then ((fX11_count (xs (v4 + (1 : Int32)).toNatClampNeg) m).bind fun r261 => if sm_ix (v4 + (1 : Int32)) Ls then ((fX12_count (xs (v4 + (1 : Int32)).toNatClampNeg) m).bind fun r264 => fL_law Ls xs n (v4 + (5 : Int32)) r264.2) else none) else none) else (if ((xs (v4).toNatClampNeg) &&& (63 : Int32)) = (39 : Int32) then (if sm_ix (v4 + (1 : Int32)) Ls then ((fL_row (xs (v4 + (1 : Int32)).toNatClampNeg) m).bind fun r267 => if sm_ix (v4 + (1 : Int32)) Ls then ((fX12_row (xs (v4 + (1 : Int32)).toNatClampNeg) r267.2).bind fun r271 => fL_law Ls xs n (v4 + (5 : Int32)) r271.2) else none) else none) else (fL_law Ls xs n (v4 + (5 : Int32)) m))))))))))))))))))))))))))))))))))))))))) else none)
set_option maxRecDepth 20000 in
set_option maxHeartbeats 4000000 in
theorem tL_law {nm : String} {p : Program} {l : Launch} {e : Env} {s : State} {m₀ : MethodId} {args : Array Value} {below : List Frame} {meth : Method} {c : Code} {b ba Ls : Nat} {D : va_G} {dA : Nat → ClassId} {xs : Nat → Int32} {Q : State → Prop} (hl : l.stackTraces = false) (hC : sm_C p room_1 s m₀ args meth c (sm_ML nm) 20 D dA) (hX : sm_XF ba s) (hS : va_X b Ls xs s s.heap) (hbl : b < s.heap.size) (hbb : b < ba)
    (hE : ∀ (L : List Value) (h : sm_H), sm_At p l e room_1 s m₀ args below meth c b ba D dA (sm_ML nm).2.2.1 false 0 0 Q 1168 L [.int 1] h) : ∀ (n : Nat) (v4 : Int32) (m : sm_S), fL_law Ls xs n v4 m = some () → sm_At p l e room_1 s m₀ args below meth c b ba D dA (sm_ML nm).2.2.1 false n (6 * n) Q 23 [.retAddr 1, .ref 0, .ref 72, .ref 107, .int v4, .retAddr 0, .retAddr 0] [] (sm_hp m) := by
  intro n
  induction n with
  | zero =>
    intro v4 m hf
    unfold fL_law at hf
    cases hf
  | succ n ih =>
    intro v4 m hf
    unfold fL_law at hf
    refine j_blk hC bL_law_23 [.retAddr 1, .ref 0, .ref 72, .ref 107, .int v4, .retAddr 0, .retAddr 0] [.retAddr 1, .int v4] (sm_hp m) [] rfl (sm_on) ?_
    refine j_slen hC hS hbl hbb dL_law_26 ?_
    refine j_blk hC bL_law_27 [.retAddr 1, .ref 0, .ref 72, .ref 107, .int v4, .retAddr 0, .retAddr 0] [.int ((Int32.ofNat Ls) - (5 : Int32)), .int v4] (sm_hp m) [] rfl (sm_on) ?_
    refine j_icmp_gt hC (tgt := 1167) dL_law_29 rfl (fun hc => ?_) (fun hc => ?_)
    · replace hf := sm_ift hc hf
      refine j_blk hC bL_law_1167 [.retAddr 1, .ref 0, .ref 72, .ref 107, .int v4, .retAddr 0, .retAddr 0] [.int (1 : Int32)] (sm_hp m) [] rfl (sm_on) ?_
      exact sm_At.room (Nat.zero_le _) (Nat.zero_le _) (hE _ _)
    · replace hf := sm_iff hc hf
      refine j_blk hC bL_law_32 [.retAddr 1, .ref 0, .ref 72, .ref 107, .int v4, .retAddr 0, .retAddr 0] [.int v4, .retAddr 1] (sm_hp m) [] rfl (sm_on) ?_
      replace hf := sm_ck hf
      obtain ⟨q1, hf⟩ := hf
      refine j_sld hC hS hbl hbb dL_law_35 q1 ?_
      refine j_blk hC bL_law_36 [.retAddr 1, .ref 0, .ref 72, .ref 107, .int v4, .retAddr 0, .retAddr 0] [.int ((xs (v4).toNatClampNeg) &&& (63 : Int32))] (sm_hp m) [] rfl (sm_on) ?_
      by_cases hc2 : ((xs (v4).toNatClampNeg) &&& (63 : Int32)) = (0 : Int32)
      · replace hf := sm_ift hc2 hf
        refine j_tableIn hC (off := 173) (tgt := 212) dL_law_39 (by rw [hc2]; decide) (by rw [hc2]; decide) (by rw [hc2]; rfl) rfl ?_
        refine j_blk hC bL_law_212 [.retAddr 1, .ref 0, .ref 72, .ref 107, .int v4, .retAddr 0, .retAddr 0] [.int (v4 + (1 : Int32)), .retAddr 1, .ref 0] (sm_hp m) [] rfl (sm_on) ?_
        replace hf := sm_ck hf
        obtain ⟨q3, hf⟩ := hf
        refine j_sld hC hS hbl hbb dL_law_218 q3 ?_
        replace hf := sm_bd hf
        obtain ⟨r5, q4, hf⟩ := hf
        refine j_callV hC [.int (xs (v4 + (1 : Int32)).toNatClampNeg)] [] (tX11_sign (xs (v4 + (1 : Int32)).toNatClampNeg) m r5 q4) (cvL_26 rfl) dL_law_219 rfl rfl (by decide) (by decide) rfl (Nat.le_of_ble_eq_true rfl) ?_
        show sm_At p l e room_1 s m₀ args below meth c b ba D dA _ _ _ _ _ 222 [.retAddr 1, .ref 0, .ref 72, .ref 107, .int v4, .retAddr 0, .retAddr 0] [.int r5.1] (sm_hp r5.2)
        refine j_blk hC bL_law_222 [.retAddr 1, .ref 0, .ref 72, .ref 107, .int v4, .retAddr 0, .retAddr 0] [.int (v4 + (1 : Int32)), .retAddr 1, .ref 72] (sm_hp r5.2) [] rfl (sm_on) ?_
        replace hf := sm_ck hf
        obtain ⟨q6, hf⟩ := hf
        refine j_sld hC hS hbl hbb dL_law_229 q6 ?_
        replace hf := sm_bd hf
        obtain ⟨r8, q7, hf⟩ := hf
        refine j_callV hC [.int (xs (v4 + (1 : Int32)).toNatClampNeg)] [] (tX12_sign (xs (v4 + (1 : Int32)).toNatClampNeg) r5.2 r8 q7) (cvL_29 rfl) dL_law_230 rfl rfl (by decide) (by decide) rfl (Nat.le_of_ble_eq_true rfl) ?_
        show sm_At p l e room_1 s m₀ args below meth c b ba D dA _ _ _ _ _ 233 [.retAddr 1, .ref 0, .ref 72, .ref 107, .int v4, .retAddr 0, .retAddr 0] [.int r8.1] (sm_hp r8.2)
        refine j_blk hC bL_law_233 [.retAddr 1, .ref 0, .ref 72, .ref 107, .int v4, .retAddr 0, .retAddr 0] [] (sm_hp r8.2) [] rfl (sm_on) ?_
        refine j_goto hC (tgt := 1161) dL_law_234 rfl ?_
        refine j_blk hC bL_law_1161 [.retAddr 1, .ref 0, .ref 72, .ref 107, .int (v4 + (5 : Int32)), .retAddr 0, .retAddr 0] [] (sm_hp r8.2) [] rfl (sm_on) ?_
        refine j_goto hC (tgt := 23) dL_law_1164 rfl ?_
        exact sm_At.room (by omega) (by omega) (ih (v4 + (5 : Int32)) r8.2 hf)
      · replace hf := sm_iff hc2 hf
        by_cases hc9 : ((xs (v4).toNatClampNeg) &&& (63 : Int32)) = (1 : Int32)
        · replace hf := sm_ift hc9 hf
          refine j_tableIn hC (off := 198) (tgt := 237) dL_law_39 (by rw [hc9]; decide) (by rw [hc9]; decide) (by rw [hc9]; rfl) rfl ?_
          refine j_blk hC bL_law_237 [.retAddr 1, .ref 0, .ref 72, .ref 107, .int v4, .retAddr 0, .retAddr 0] [.int (v4 + (1 : Int32)), .retAddr 1, .ref 0] (sm_hp m) [] rfl (sm_on) ?_
          replace hf := sm_ck hf
          obtain ⟨q10, hf⟩ := hf
          refine j_sld hC hS hbl hbb dL_law_243 q10 ?_
          replace hf := sm_bd hf
          obtain ⟨r12, q11, hf⟩ := hf
          refine j_callV hC [.int (xs (v4 + (1 : Int32)).toNatClampNeg)] [] (tX11_end (xs (v4 + (1 : Int32)).toNatClampNeg) m r12 q11) (cvL_30 rfl) dL_law_244 rfl rfl (by decide) (by decide) rfl (Nat.le_of_ble_eq_true rfl) ?_
          show sm_At p l e room_1 s m₀ args below meth c b ba D dA _ _ _ _ _ 247 [.retAddr 1, .ref 0, .ref 72, .ref 107, .int v4, .retAddr 0, .retAddr 0] [.int r12.1] (sm_hp r12.2)
          refine j_blk hC bL_law_247 [.retAddr 1, .ref 0, .ref 72, .ref 107, .int v4, .retAddr 0, .retAddr 0] [.int (v4 + (1 : Int32)), .retAddr 1, .ref 72] (sm_hp r12.2) [] rfl (sm_on) ?_
          replace hf := sm_ck hf
          obtain ⟨q13, hf⟩ := hf
          refine j_sld hC hS hbl hbb dL_law_254 q13 ?_
          replace hf := sm_bd hf
          obtain ⟨r15, q14, hf⟩ := hf
          refine j_callV hC [.int (xs (v4 + (1 : Int32)).toNatClampNeg)] [] (tX12_end (xs (v4 + (1 : Int32)).toNatClampNeg) r12.2 r15 q14) (cvL_34 rfl) dL_law_255 rfl rfl (by decide) (by decide) rfl (Nat.le_of_ble_eq_true rfl) ?_
          show sm_At p l e room_1 s m₀ args below meth c b ba D dA _ _ _ _ _ 258 [.retAddr 1, .ref 0, .ref 72, .ref 107, .int v4, .retAddr 0, .retAddr 0] [.int r15.1] (sm_hp r15.2)
          refine j_blk hC bL_law_258 [.retAddr 1, .ref 0, .ref 72, .ref 107, .int v4, .retAddr 0, .retAddr 0] [] (sm_hp r15.2) [] rfl (sm_on) ?_
          refine j_goto hC (tgt := 1161) dL_law_259 rfl ?_
          refine j_blk hC bL_law_1161 [.retAddr 1, .ref 0, .ref 72, .ref 107, .int (v4 + (5 : Int32)), .retAddr 0, .retAddr 0] [] (sm_hp r15.2) [] rfl (sm_on) ?_
          refine j_goto hC (tgt := 23) dL_law_1164 rfl ?_
          exact sm_At.room (by omega) (by omega) (ih (v4 + (5 : Int32)) r15.2 hf)
        · replace hf := sm_iff hc9 hf
          by_cases hc16 : ((xs (v4).toNatClampNeg) &&& (63 : Int32)) = (2 : Int32)
          · replace hf := sm_ift hc16 hf
            refine j_tableIn hC (off := 223) (tgt := 262) dL_law_39 (by rw [hc16]; decide) (by rw [hc16]; decide) (by rw [hc16]; rfl) rfl ?_
            refine j_blk hC bL_law_262 [.retAddr 1, .ref 0, .ref 72, .ref 107, .int v4, .retAddr 0, .retAddr 0] [.ref 0] (sm_hp m) [] rfl (sm_on) ?_
            replace hf := sm_bd hf
            obtain ⟨r18, q17, hf⟩ := hf
            refine j_callV hC [] [] (tX11_land m r18 q17) (cvL_35 rfl) dL_law_263 rfl rfl (by decide) (by decide) rfl (Nat.le_of_ble_eq_true rfl) ?_
            show sm_At p l e room_1 s m₀ args below meth c b ba D dA _ _ _ _ _ 266 [.retAddr 1, .ref 0, .ref 72, .ref 107, .int v4, .retAddr 0, .retAddr 0] [.int r18.1] (sm_hp r18.2)
            refine j_blk hC bL_law_266 [.retAddr 1, .ref 0, .ref 72, .ref 107, .int v4, .retAddr 0, .retAddr 0] [.ref 72] (sm_hp r18.2) [] rfl (sm_on) ?_
            replace hf := sm_bd hf
            obtain ⟨r20, q19, hf⟩ := hf
            refine j_callV hC [] [] (tX12_land r18.2 r20 q19) (cvL_39 rfl) dL_law_268 rfl rfl (by decide) (by decide) rfl (Nat.le_of_ble_eq_true rfl) ?_
            show sm_At p l e room_1 s m₀ args below meth c b ba D dA _ _ _ _ _ 271 [.retAddr 1, .ref 0, .ref 72, .ref 107, .int v4, .retAddr 0, .retAddr 0] [.int r20.1] (sm_hp r20.2)
            refine j_blk hC bL_law_271 [.retAddr 1, .ref 0, .ref 72, .ref 107, .int v4, .retAddr 0, .retAddr 0] [] (sm_hp r20.2) [] rfl (sm_on) ?_
            refine j_goto hC (tgt := 1161) dL_law_272 rfl ?_
            refine j_blk hC bL_law_1161 [.retAddr 1, .ref 0, .ref 72, .ref 107, .int (v4 + (5 : Int32)), .retAddr 0, .retAddr 0] [] (sm_hp r20.2) [] rfl (sm_on) ?_
            refine j_goto hC (tgt := 23) dL_law_1164 rfl ?_
            exact sm_At.room (by omega) (by omega) (ih (v4 + (5 : Int32)) r20.2 hf)
          · replace hf := sm_iff hc16 hf
            by_cases hc21 : ((xs (v4).toNatClampNeg) &&& (63 : Int32)) = (3 : Int32)
            · replace hf := sm_ift hc21 hf
              refine j_tableIn hC (off := 236) (tgt := 275) dL_law_39 (by rw [hc21]; decide) (by rw [hc21]; decide) (by rw [hc21]; rfl) rfl ?_
              refine j_blk hC bL_law_275 [.retAddr 1, .ref 0, .ref 72, .ref 107, .int v4, .retAddr 0, .retAddr 0] [.int (v4 + (1 : Int32)), .retAddr 1, .ref 0] (sm_hp m) [] rfl (sm_on) ?_
              replace hf := sm_ck hf
              obtain ⟨q22, hf⟩ := hf
              refine j_sld hC hS hbl hbb dL_law_281 q22 ?_
              refine j_blk hC bL_law_282 [.retAddr 1, .ref 0, .ref 72, .ref 107, .int v4, .retAddr 0, .retAddr 0] [.int (v4 + (2 : Int32)), .retAddr 1, .int (xs (v4 + (1 : Int32)).toNatClampNeg), .ref 0] (sm_hp m) [] rfl (sm_on) ?_
              replace hf := sm_ck hf
              obtain ⟨q23, hf⟩ := hf
              refine j_sld hC hS hbl hbb dL_law_287 q23 ?_
              refine j_blk hC bL_law_288 [.retAddr 1, .ref 0, .ref 72, .ref 107, .int v4, .retAddr 0, .retAddr 0] [.ref 107, .int (xs (v4 + (2 : Int32)).toNatClampNeg), .int (xs (v4 + (1 : Int32)).toNatClampNeg), .ref 0] (sm_hp m) [] rfl (sm_on) ?_
              replace hf := sm_bd hf
              obtain ⟨r24, q25, hf⟩ := hf
              refine sm_At.room (rc' := n + 1) (rs' := 6 * n + 6) (by omega) (by omega) ?_
              refine jm_callH (n := 4) [.ref 0, .int (xs (v4 + (1 : Int32)).toNatClampNeg), .int (xs (v4 + (2 : Int32)).toNatClampNeg), .ref 107] [] (tL_hedge hl (xs (v4 + (1 : Int32)).toNatClampNeg) (xs (v4 + (2 : Int32)).toNatClampNeg) m r24 q25) hC hX ⟨by decide, by decide, by decide +kernel⟩ wmL_40 wsL_hedge wIL wcwL_hedge dL_law_289 rfl rfl (by decide) (by decide) (Nat.le_of_ble_eq_true rfl) ?_
              show sm_At p l e room_1 s m₀ args below meth c b ba D dA _ _ _ _ _ 292 [.retAddr 1, .ref 0, .ref 72, .ref 107, .int v4, .retAddr 0, .retAddr 0] [.int r24.1] (sm_hp r24.2)
              refine j_blk hC bL_law_292 [.retAddr 1, .ref 0, .ref 72, .ref 107, .int v4, .int r24.1, .retAddr 0] [.int (v4 + (1 : Int32)), .retAddr 1, .ref 72] (sm_hp r24.2) [] rfl (sm_on) ?_
              replace hf := sm_ck hf
              obtain ⟨q26, hf⟩ := hf
              refine j_sld hC hS hbl hbb dL_law_300 q26 ?_
              refine j_blk hC bL_law_301 [.retAddr 1, .ref 0, .ref 72, .ref 107, .int v4, .int r24.1, .retAddr 0] [.int (v4 + (2 : Int32)), .retAddr 1, .int (xs (v4 + (1 : Int32)).toNatClampNeg), .ref 72] (sm_hp r24.2) [] rfl (sm_on) ?_
              replace hf := sm_ck hf
              obtain ⟨q27, hf⟩ := hf
              refine j_sld hC hS hbl hbb dL_law_306 q27 ?_
              replace hf := sm_bd hf
              obtain ⟨r29, q28, hf⟩ := hf
              refine j_callV hC [.int (xs (v4 + (1 : Int32)).toNatClampNeg), .int (xs (v4 + (2 : Int32)).toNatClampNeg)] [] (tX12_hedge (xs (v4 + (1 : Int32)).toNatClampNeg) (xs (v4 + (2 : Int32)).toNatClampNeg) r24.2 r29 q28) (cvL_45 rfl) dL_law_307 rfl rfl (by decide) (by decide) rfl (Nat.le_of_ble_eq_true rfl) ?_
              show sm_At p l e room_1 s m₀ args below meth c b ba D dA _ _ _ _ _ 310 [.retAddr 1, .ref 0, .ref 72, .ref 107, .int v4, .int r24.1, .retAddr 0] [.int r29.1] (sm_hp r29.2)
              refine j_blk hC bL_law_310 [.retAddr 1, .ref 0, .ref 72, .ref 107, .int v4, .int r24.1, .int r29.1] [] (sm_hp r29.2) [] rfl (sm_on) ?_
              refine j_goto hC (tgt := 1161) dL_law_312 rfl ?_
              refine j_blk hC bL_law_1161 [.retAddr 1, .ref 0, .ref 72, .ref 107, .int (v4 + (5 : Int32)), .int r24.1, .int r29.1] [] (sm_hp r29.2) [] rfl (sm_on) ?_
              refine j_goto hC (tgt := 23) dL_law_1164 rfl ?_
              refine j_wk hC [true, true, true, true, true, false, false] ?_
              exact sm_At.room (by omega) (by omega) (ih (v4 + (5 : Int32)) r29.2 hf)
            · replace hf := sm_iff hc21 hf
              by_cases hc30 : ((xs (v4).toNatClampNeg) &&& (63 : Int32)) = (4 : Int32)
              · replace hf := sm_ift hc30 hf
                refine j_tableIn hC (off := 276) (tgt := 315) dL_law_39 (by rw [hc30]; decide) (by rw [hc30]; decide) (by rw [hc30]; rfl) rfl ?_
                refine j_blk hC bL_law_315 [.retAddr 1, .ref 0, .ref 72, .ref 107, .int v4, .retAddr 0, .retAddr 0] [.int (v4 + (1 : Int32)), .retAddr 1, .ref 0] (sm_hp m) [] rfl (sm_on) ?_
                replace hf := sm_ck hf
                obtain ⟨q31, hf⟩ := hf
                refine j_sld hC hS hbl hbb dL_law_321 q31 ?_
                refine j_blk hC bL_law_322 [.retAddr 1, .ref 0, .ref 72, .ref 107, .int v4, .retAddr 0, .retAddr 0] [.int (v4 + (2 : Int32)), .retAddr 1, .int (xs (v4 + (1 : Int32)).toNatClampNeg), .ref 0] (sm_hp m) [] rfl (sm_on) ?_
                replace hf := sm_ck hf
                obtain ⟨q32, hf⟩ := hf
                refine j_sld hC hS hbl hbb dL_law_327 q32 ?_
                replace hf := sm_bd hf
                obtain ⟨r34, q33, hf⟩ := hf
                refine j_callV hC [.int (xs (v4 + (1 : Int32)).toNatClampNeg), .int (xs (v4 + (2 : Int32)).toNatClampNeg)] [] (tX11_grass (xs (v4 + (1 : Int32)).toNatClampNeg) (xs (v4 + (2 : Int32)).toNatClampNeg) m r34 q33) (cvL_46 rfl) dL_law_328 rfl rfl (by decide) (by decide) rfl (Nat.le_of_ble_eq_true rfl) ?_
                show sm_At p l e room_1 s m₀ args below meth c b ba D dA _ _ _ _ _ 331 [.retAddr 1, .ref 0, .ref 72, .ref 107, .int v4, .retAddr 0, .retAddr 0] [.int r34] (sm_hp m)
                refine j_blk hC bL_law_331 [.retAddr 1, .ref 0, .ref 72, .ref 107, .int v4, .retAddr 0, .retAddr 0] [.int (v4 + (1 : Int32)), .retAddr 1, .ref 72] (sm_hp m) [] rfl (sm_on) ?_
                replace hf := sm_ck hf
                obtain ⟨q35, hf⟩ := hf
                refine j_sld hC hS hbl hbb dL_law_338 q35 ?_
                refine j_blk hC bL_law_339 [.retAddr 1, .ref 0, .ref 72, .ref 107, .int v4, .retAddr 0, .retAddr 0] [.int (v4 + (2 : Int32)), .retAddr 1, .int (xs (v4 + (1 : Int32)).toNatClampNeg), .ref 72] (sm_hp m) [] rfl (sm_on) ?_
                replace hf := sm_ck hf
                obtain ⟨q36, hf⟩ := hf
                refine j_sld hC hS hbl hbb dL_law_344 q36 ?_
                replace hf := sm_bd hf
                obtain ⟨r38, q37, hf⟩ := hf
                refine j_callV hC [.int (xs (v4 + (1 : Int32)).toNatClampNeg), .int (xs (v4 + (2 : Int32)).toNatClampNeg)] [] (tX12_grass (xs (v4 + (1 : Int32)).toNatClampNeg) (xs (v4 + (2 : Int32)).toNatClampNeg) m r38 q37) (cvL_49 rfl) dL_law_345 rfl rfl (by decide) (by decide) rfl (Nat.le_of_ble_eq_true rfl) ?_
                show sm_At p l e room_1 s m₀ args below meth c b ba D dA _ _ _ _ _ 348 [.retAddr 1, .ref 0, .ref 72, .ref 107, .int v4, .retAddr 0, .retAddr 0] [.int r38.1] (sm_hp r38.2)
                refine j_blk hC bL_law_348 [.retAddr 1, .ref 0, .ref 72, .ref 107, .int v4, .retAddr 0, .retAddr 0] [] (sm_hp r38.2) [] rfl (sm_on) ?_
                refine j_goto hC (tgt := 1161) dL_law_349 rfl ?_
                refine j_blk hC bL_law_1161 [.retAddr 1, .ref 0, .ref 72, .ref 107, .int (v4 + (5 : Int32)), .retAddr 0, .retAddr 0] [] (sm_hp r38.2) [] rfl (sm_on) ?_
                refine j_goto hC (tgt := 23) dL_law_1164 rfl ?_
                exact sm_At.room (by omega) (by omega) (ih (v4 + (5 : Int32)) r38.2 hf)
              · replace hf := sm_iff hc30 hf
                by_cases hc39 : ((xs (v4).toNatClampNeg) &&& (63 : Int32)) = (5 : Int32)
                · replace hf := sm_ift hc39 hf
                  refine j_tableIn hC (off := 313) (tgt := 352) dL_law_39 (by rw [hc39]; decide) (by rw [hc39]; decide) (by rw [hc39]; rfl) rfl ?_
                  refine j_blk hC bL_law_352 [.retAddr 1, .ref 0, .ref 72, .ref 107, .int v4, .retAddr 0, .retAddr 0] [.int (v4 + (1 : Int32)), .retAddr 1, .ref 0] (sm_hp m) [] rfl (sm_on) ?_
                  replace hf := sm_ck hf
                  obtain ⟨q40, hf⟩ := hf
                  refine j_sld hC hS hbl hbb dL_law_358 q40 ?_
                  refine j_blk hC bL_law_359 [.retAddr 1, .ref 0, .ref 72, .ref 107, .int v4, .retAddr 0, .retAddr 0] [.int (v4 + (2 : Int32)), .retAddr 1, .int (xs (v4 + (1 : Int32)).toNatClampNeg), .ref 0] (sm_hp m) [] rfl (sm_on) ?_
                  replace hf := sm_ck hf
                  obtain ⟨q41, hf⟩ := hf
                  refine j_sld hC hS hbl hbb dL_law_364 q41 ?_
                  refine j_blk hC bL_law_365 [.retAddr 1, .ref 0, .ref 72, .ref 107, .int v4, .retAddr 0, .retAddr 0] [.int (v4 + (3 : Int32)), .retAddr 1, .int (xs (v4 + (2 : Int32)).toNatClampNeg), .int (xs (v4 + (1 : Int32)).toNatClampNeg), .ref 0] (sm_hp m) [] rfl (sm_on) ?_
                  replace hf := sm_ck hf
                  obtain ⟨q42, hf⟩ := hf
                  refine j_sld hC hS hbl hbb dL_law_370 q42 ?_
                  replace hf := sm_bd hf
                  obtain ⟨r44, q43, hf⟩ := hf
                  refine j_callV hC [.int (xs (v4 + (1 : Int32)).toNatClampNeg), .int (xs (v4 + (2 : Int32)).toNatClampNeg), .int (xs (v4 + (3 : Int32)).toNatClampNeg)] [] (tX11_set (xs (v4 + (1 : Int32)).toNatClampNeg) (xs (v4 + (2 : Int32)).toNatClampNeg) (xs (v4 + (3 : Int32)).toNatClampNeg) m r44 q43) (cvL_50 rfl) dL_law_371 rfl rfl (by decide) (by decide) rfl (Nat.le_of_ble_eq_true rfl) ?_
                  show sm_At p l e room_1 s m₀ args below meth c b ba D dA _ _ _ _ _ 374 [.retAddr 1, .ref 0, .ref 72, .ref 107, .int v4, .retAddr 0, .retAddr 0] [.int r44.1] (sm_hp r44.2)
                  refine j_blk hC bL_law_374 [.retAddr 1, .ref 0, .ref 72, .ref 107, .int v4, .retAddr 0, .retAddr 0] [.int (v4 + (1 : Int32)), .retAddr 1, .ref 72] (sm_hp r44.2) [] rfl (sm_on) ?_
                  replace hf := sm_ck hf
                  obtain ⟨q45, hf⟩ := hf
                  refine j_sld hC hS hbl hbb dL_law_381 q45 ?_
                  refine j_blk hC bL_law_382 [.retAddr 1, .ref 0, .ref 72, .ref 107, .int v4, .retAddr 0, .retAddr 0] [.int (v4 + (2 : Int32)), .retAddr 1, .int (xs (v4 + (1 : Int32)).toNatClampNeg), .ref 72] (sm_hp r44.2) [] rfl (sm_on) ?_
                  replace hf := sm_ck hf
                  obtain ⟨q46, hf⟩ := hf
                  refine j_sld hC hS hbl hbb dL_law_387 q46 ?_
                  refine j_blk hC bL_law_388 [.retAddr 1, .ref 0, .ref 72, .ref 107, .int v4, .retAddr 0, .retAddr 0] [.int (v4 + (3 : Int32)), .retAddr 1, .int (xs (v4 + (2 : Int32)).toNatClampNeg), .int (xs (v4 + (1 : Int32)).toNatClampNeg), .ref 72] (sm_hp r44.2) [] rfl (sm_on) ?_
                  replace hf := sm_ck hf
                  obtain ⟨q47, hf⟩ := hf
                  refine j_sld hC hS hbl hbb dL_law_393 q47 ?_
                  replace hf := sm_bd hf
                  obtain ⟨r49, q48, hf⟩ := hf
                  refine j_callV hC [.int (xs (v4 + (1 : Int32)).toNatClampNeg), .int (xs (v4 + (2 : Int32)).toNatClampNeg), .int (xs (v4 + (3 : Int32)).toNatClampNeg)] [] (tX12_set (xs (v4 + (1 : Int32)).toNatClampNeg) (xs (v4 + (2 : Int32)).toNatClampNeg) (xs (v4 + (3 : Int32)).toNatClampNeg) r44.2 r49 q48) (cvL_54 rfl) dL_law_394 rfl rfl (by decide) (by decide) rfl (Nat.le_of_ble_eq_true rfl) ?_
                  show sm_At p l e room_1 s m₀ args below meth c b ba D dA _ _ _ _ _ 397 [.retAddr 1, .ref 0, .ref 72, .ref 107, .int v4, .retAddr 0, .retAddr 0] [.int r49.1] (sm_hp r49.2)
                  refine j_blk hC bL_law_397 [.retAddr 1, .ref 0, .ref 72, .ref 107, .int v4, .retAddr 0, .retAddr 0] [] (sm_hp r49.2) [] rfl (sm_on) ?_
                  refine j_goto hC (tgt := 1161) dL_law_398 rfl ?_
                  refine j_blk hC bL_law_1161 [.retAddr 1, .ref 0, .ref 72, .ref 107, .int (v4 + (5 : Int32)), .retAddr 0, .retAddr 0] [] (sm_hp r49.2) [] rfl (sm_on) ?_
                  refine j_goto hC (tgt := 23) dL_law_1164 rfl ?_
                  exact sm_At.room (by omega) (by omega) (ih (v4 + (5 : Int32)) r49.2 hf)
                · replace hf := sm_iff hc39 hf
                  by_cases hc50 : ((xs (v4).toNatClampNeg) &&& (63 : Int32)) = (6 : Int32)
                  · replace hf := sm_ift hc50 hf
                    refine j_tableIn hC (off := 362) (tgt := 401) dL_law_39 (by rw [hc50]; decide) (by rw [hc50]; decide) (by rw [hc50]; rfl) rfl ?_
                    refine j_blk hC bL_law_401 [.retAddr 1, .ref 0, .ref 72, .ref 107, .int v4, .retAddr 0, .retAddr 0] [.int (v4 + (1 : Int32)), .retAddr 1, .ref 0] (sm_hp m) [] rfl (sm_on) ?_
                    replace hf := sm_ck hf
                    obtain ⟨q51, hf⟩ := hf
                    refine j_sld hC hS hbl hbb dL_law_407 q51 ?_
                    refine j_blk hC bL_law_408 [.retAddr 1, .ref 0, .ref 72, .ref 107, .int v4, .retAddr 0, .retAddr 0] [.int (v4 + (2 : Int32)), .retAddr 1, .int (xs (v4 + (1 : Int32)).toNatClampNeg), .ref 0] (sm_hp m) [] rfl (sm_on) ?_
                    replace hf := sm_ck hf
                    obtain ⟨q52, hf⟩ := hf
                    refine j_sld hC hS hbl hbb dL_law_413 q52 ?_
                    refine j_blk hC bL_law_414 [.retAddr 1, .ref 0, .ref 72, .ref 107, .int v4, .retAddr 0, .retAddr 0] [.int (v4 + (3 : Int32)), .retAddr 1, .int (xs (v4 + (2 : Int32)).toNatClampNeg), .int (xs (v4 + (1 : Int32)).toNatClampNeg), .ref 0] (sm_hp m) [] rfl (sm_on) ?_
                    replace hf := sm_ck hf
                    obtain ⟨q53, hf⟩ := hf
                    refine j_sld hC hS hbl hbb dL_law_419 q53 ?_
                    refine j_blk hC bL_law_420 [.retAddr 1, .ref 0, .ref 72, .ref 107, .int v4, .retAddr 0, .retAddr 0] [.int (v4 + (4 : Int32)), .retAddr 1, .int (xs (v4 + (3 : Int32)).toNatClampNeg), .int (xs (v4 + (2 : Int32)).toNatClampNeg), .int (xs (v4 + (1 : Int32)).toNatClampNeg), .ref 0] (sm_hp m) [] rfl (sm_on) ?_
                    replace hf := sm_ck hf
                    obtain ⟨q54, hf⟩ := hf
                    refine j_sld hC hS hbl hbb dL_law_425 q54 ?_
                    replace hf := sm_bd hf
                    obtain ⟨r56, q55, hf⟩ := hf
                    refine j_callV hC [.int (xs (v4 + (1 : Int32)).toNatClampNeg), .int (xs (v4 + (2 : Int32)).toNatClampNeg), .int (xs (v4 + (3 : Int32)).toNatClampNeg), .int (xs (v4 + (4 : Int32)).toNatClampNeg)] [] (tX11_sheet (xs (v4 + (1 : Int32)).toNatClampNeg) (xs (v4 + (2 : Int32)).toNatClampNeg) (xs (v4 + (3 : Int32)).toNatClampNeg) (xs (v4 + (4 : Int32)).toNatClampNeg) m r56 q55) (cvL_55 rfl) dL_law_426 rfl rfl (by decide) (by decide) rfl (Nat.le_of_ble_eq_true rfl) ?_
                    show sm_At p l e room_1 s m₀ args below meth c b ba D dA _ _ _ _ _ 429 [.retAddr 1, .ref 0, .ref 72, .ref 107, .int v4, .retAddr 0, .retAddr 0] [.int r56.1] (sm_hp r56.2)
                    refine j_blk hC bL_law_429 [.retAddr 1, .ref 0, .ref 72, .ref 107, .int v4, .retAddr 0, .retAddr 0] [.int (v4 + (1 : Int32)), .retAddr 1, .ref 72] (sm_hp r56.2) [] rfl (sm_on) ?_
                    replace hf := sm_ck hf
                    obtain ⟨q57, hf⟩ := hf
                    refine j_sld hC hS hbl hbb dL_law_436 q57 ?_
                    refine j_blk hC bL_law_437 [.retAddr 1, .ref 0, .ref 72, .ref 107, .int v4, .retAddr 0, .retAddr 0] [.int (v4 + (2 : Int32)), .retAddr 1, .int (xs (v4 + (1 : Int32)).toNatClampNeg), .ref 72] (sm_hp r56.2) [] rfl (sm_on) ?_
                    replace hf := sm_ck hf
                    obtain ⟨q58, hf⟩ := hf
                    refine j_sld hC hS hbl hbb dL_law_442 q58 ?_
                    refine j_blk hC bL_law_443 [.retAddr 1, .ref 0, .ref 72, .ref 107, .int v4, .retAddr 0, .retAddr 0] [.int (v4 + (3 : Int32)), .retAddr 1, .int (xs (v4 + (2 : Int32)).toNatClampNeg), .int (xs (v4 + (1 : Int32)).toNatClampNeg), .ref 72] (sm_hp r56.2) [] rfl (sm_on) ?_
                    replace hf := sm_ck hf
                    obtain ⟨q59, hf⟩ := hf
                    refine j_sld hC hS hbl hbb dL_law_448 q59 ?_
                    refine j_blk hC bL_law_449 [.retAddr 1, .ref 0, .ref 72, .ref 107, .int v4, .retAddr 0, .retAddr 0] [.int (v4 + (4 : Int32)), .retAddr 1, .int (xs (v4 + (3 : Int32)).toNatClampNeg), .int (xs (v4 + (2 : Int32)).toNatClampNeg), .int (xs (v4 + (1 : Int32)).toNatClampNeg), .ref 72] (sm_hp r56.2) [] rfl (sm_on) ?_
                    replace hf := sm_ck hf
                    obtain ⟨q60, hf⟩ := hf
                    refine j_sld hC hS hbl hbb dL_law_454 q60 ?_
                    replace hf := sm_bd hf
                    obtain ⟨r62, q61, hf⟩ := hf
                    refine j_callV hC [.int (xs (v4 + (1 : Int32)).toNatClampNeg), .int (xs (v4 + (2 : Int32)).toNatClampNeg), .int (xs (v4 + (3 : Int32)).toNatClampNeg), .int (xs (v4 + (4 : Int32)).toNatClampNeg)] [] (tX12_sheet (xs (v4 + (1 : Int32)).toNatClampNeg) (xs (v4 + (2 : Int32)).toNatClampNeg) (xs (v4 + (3 : Int32)).toNatClampNeg) (xs (v4 + (4 : Int32)).toNatClampNeg) r56.2 r62 q61) (cvL_59 rfl) dL_law_455 rfl rfl (by decide) (by decide) rfl (Nat.le_of_ble_eq_true rfl) ?_
                    show sm_At p l e room_1 s m₀ args below meth c b ba D dA _ _ _ _ _ 458 [.retAddr 1, .ref 0, .ref 72, .ref 107, .int v4, .retAddr 0, .retAddr 0] [.int r62.1] (sm_hp r62.2)
                    refine j_blk hC bL_law_458 [.retAddr 1, .ref 0, .ref 72, .ref 107, .int v4, .retAddr 0, .retAddr 0] [] (sm_hp r62.2) [] rfl (sm_on) ?_
                    refine j_goto hC (tgt := 1161) dL_law_459 rfl ?_
                    refine j_blk hC bL_law_1161 [.retAddr 1, .ref 0, .ref 72, .ref 107, .int (v4 + (5 : Int32)), .retAddr 0, .retAddr 0] [] (sm_hp r62.2) [] rfl (sm_on) ?_
                    refine j_goto hC (tgt := 23) dL_law_1164 rfl ?_
                    exact sm_At.room (by omega) (by omega) (ih (v4 + (5 : Int32)) r62.2 hf)
                  · replace hf := sm_iff hc50 hf
                    by_cases hc63 : ((xs (v4).toNatClampNeg) &&& (63 : Int32)) = (7 : Int32)
                    · replace hf := sm_ift hc63 hf
                      refine j_tableIn hC (off := 423) (tgt := 462) dL_law_39 (by rw [hc63]; decide) (by rw [hc63]; decide) (by rw [hc63]; rfl) rfl ?_
                      refine j_blk hC bL_law_462 [.retAddr 1, .ref 0, .ref 72, .ref 107, .int v4, .retAddr 0, .retAddr 0] [.int (v4 + (1 : Int32)), .retAddr 1, .ref 0] (sm_hp m) [] rfl (sm_on) ?_
                      replace hf := sm_ck hf
                      obtain ⟨q64, hf⟩ := hf
                      refine j_sld hC hS hbl hbb dL_law_468 q64 ?_
                      replace hf := sm_bd hf
                      obtain ⟨r66, q65, hf⟩ := hf
                      refine j_callV hC [.int (xs (v4 + (1 : Int32)).toNatClampNeg)] [] (tX11_walk (xs (v4 + (1 : Int32)).toNatClampNeg) m r66 q65) (cvL_60 rfl) dL_law_469 rfl rfl (by decide) (by decide) rfl (Nat.le_of_ble_eq_true rfl) ?_
                      show sm_At p l e room_1 s m₀ args below meth c b ba D dA _ _ _ _ _ 472 [.retAddr 1, .ref 0, .ref 72, .ref 107, .int v4, .retAddr 0, .retAddr 0] [.int r66.1] (sm_hp r66.2)
                      refine j_blk hC bL_law_472 [.retAddr 1, .ref 0, .ref 72, .ref 107, .int v4, .retAddr 0, .retAddr 0] [.int (v4 + (1 : Int32)), .retAddr 1, .ref 72] (sm_hp r66.2) [] rfl (sm_on) ?_
                      replace hf := sm_ck hf
                      obtain ⟨q67, hf⟩ := hf
                      refine j_sld hC hS hbl hbb dL_law_479 q67 ?_
                      replace hf := sm_bd hf
                      obtain ⟨r69, q68, hf⟩ := hf
                      refine j_callV hC [.int (xs (v4 + (1 : Int32)).toNatClampNeg)] [] (tX12_walk (xs (v4 + (1 : Int32)).toNatClampNeg) r66.2 r69 q68) (cvL_63 rfl) dL_law_480 rfl rfl (by decide) (by decide) rfl (Nat.le_of_ble_eq_true rfl) ?_
                      show sm_At p l e room_1 s m₀ args below meth c b ba D dA _ _ _ _ _ 483 [.retAddr 1, .ref 0, .ref 72, .ref 107, .int v4, .retAddr 0, .retAddr 0] [.int r69.1] (sm_hp r69.2)
                      refine j_blk hC bL_law_483 [.retAddr 1, .ref 0, .ref 72, .ref 107, .int v4, .retAddr 0, .retAddr 0] [] (sm_hp r69.2) [] rfl (sm_on) ?_
                      refine j_goto hC (tgt := 1161) dL_law_484 rfl ?_
                      refine j_blk hC bL_law_1161 [.retAddr 1, .ref 0, .ref 72, .ref 107, .int (v4 + (5 : Int32)), .retAddr 0, .retAddr 0] [] (sm_hp r69.2) [] rfl (sm_on) ?_
                      refine j_goto hC (tgt := 23) dL_law_1164 rfl ?_
                      exact sm_At.room (by omega) (by omega) (ih (v4 + (5 : Int32)) r69.2 hf)
                    · replace hf := sm_iff hc63 hf
                      by_cases hc70 : ((xs (v4).toNatClampNeg) &&& (63 : Int32)) = (8 : Int32)
                      · replace hf := sm_ift hc70 hf
                        refine j_tableIn hC (off := 448) (tgt := 487) dL_law_39 (by rw [hc70]; decide) (by rw [hc70]; decide) (by rw [hc70]; rfl) rfl ?_
                        refine j_blk hC bL_law_487 [.retAddr 1, .ref 0, .ref 72, .ref 107, .int v4, .retAddr 0, .retAddr 0] [.int (v4 + (1 : Int32)), .retAddr 1, .ref 0] (sm_hp m) [] rfl (sm_on) ?_
                        replace hf := sm_ck hf
                        obtain ⟨q71, hf⟩ := hf
                        refine j_sld hC hS hbl hbb dL_law_493 q71 ?_
                        replace hf := sm_bd hf
                        obtain ⟨r73, q72, hf⟩ := hf
                        refine j_callV hC [.int (xs (v4 + (1 : Int32)).toNatClampNeg)] [] (tX11_rest (xs (v4 + (1 : Int32)).toNatClampNeg) m r73 q72) (cvL_64 rfl) dL_law_494 rfl rfl (by decide) (by decide) rfl (Nat.le_of_ble_eq_true rfl) ?_
                        show sm_At p l e room_1 s m₀ args below meth c b ba D dA _ _ _ _ _ 497 [.retAddr 1, .ref 0, .ref 72, .ref 107, .int v4, .retAddr 0, .retAddr 0] [.int r73.1] (sm_hp r73.2)
                        refine j_blk hC bL_law_497 [.retAddr 1, .ref 0, .ref 72, .ref 107, .int v4, .retAddr 0, .retAddr 0] [.int (v4 + (1 : Int32)), .retAddr 1, .ref 72] (sm_hp r73.2) [] rfl (sm_on) ?_
                        replace hf := sm_ck hf
                        obtain ⟨q74, hf⟩ := hf
                        refine j_sld hC hS hbl hbb dL_law_504 q74 ?_
                        replace hf := sm_bd hf
                        obtain ⟨r76, q75, hf⟩ := hf
                        refine j_callV hC [.int (xs (v4 + (1 : Int32)).toNatClampNeg)] [] (tX12_rest (xs (v4 + (1 : Int32)).toNatClampNeg) r73.2 r76 q75) (cvL_67 rfl) dL_law_505 rfl rfl (by decide) (by decide) rfl (Nat.le_of_ble_eq_true rfl) ?_
                        show sm_At p l e room_1 s m₀ args below meth c b ba D dA _ _ _ _ _ 508 [.retAddr 1, .ref 0, .ref 72, .ref 107, .int v4, .retAddr 0, .retAddr 0] [.int r76.1] (sm_hp r76.2)
                        refine j_blk hC bL_law_508 [.retAddr 1, .ref 0, .ref 72, .ref 107, .int v4, .retAddr 0, .retAddr 0] [] (sm_hp r76.2) [] rfl (sm_on) ?_
                        refine j_goto hC (tgt := 1161) dL_law_509 rfl ?_
                        refine j_blk hC bL_law_1161 [.retAddr 1, .ref 0, .ref 72, .ref 107, .int (v4 + (5 : Int32)), .retAddr 0, .retAddr 0] [] (sm_hp r76.2) [] rfl (sm_on) ?_
                        refine j_goto hC (tgt := 23) dL_law_1164 rfl ?_
                        exact sm_At.room (by omega) (by omega) (ih (v4 + (5 : Int32)) r76.2 hf)
                      · replace hf := sm_iff hc70 hf
                        by_cases hc77 : ((xs (v4).toNatClampNeg) &&& (63 : Int32)) = (9 : Int32)
                        · replace hf := sm_ift hc77 hf
                          refine j_tableIn hC (off := 473) (tgt := 512) dL_law_39 (by rw [hc77]; decide) (by rw [hc77]; decide) (by rw [hc77]; rfl) rfl ?_
                          refine j_blk hC bL_law_512 [.retAddr 1, .ref 0, .ref 72, .ref 107, .int v4, .retAddr 0, .retAddr 0] [.ref 0] (sm_hp m) [] rfl (sm_on) ?_
                          replace hf := sm_bd hf
                          obtain ⟨r79, q78, hf⟩ := hf
                          refine j_callV hC [] [] (tX11_undo m r79 q78) (cvL_68 rfl) dL_law_513 rfl rfl (by decide) (by decide) rfl (Nat.le_of_ble_eq_true rfl) ?_
                          show sm_At p l e room_1 s m₀ args below meth c b ba D dA _ _ _ _ _ 516 [.retAddr 1, .ref 0, .ref 72, .ref 107, .int v4, .retAddr 0, .retAddr 0] [.int r79.1] (sm_hp r79.2)
                          refine j_blk hC bL_law_516 [.retAddr 1, .ref 0, .ref 72, .ref 107, .int v4, .retAddr 0, .retAddr 0] [.ref 72] (sm_hp r79.2) [] rfl (sm_on) ?_
                          replace hf := sm_bd hf
                          obtain ⟨r81, q80, hf⟩ := hf
                          refine j_callV hC [] [] (tX12_undo r79.2 r81 q80) (cvL_71 rfl) dL_law_518 rfl rfl (by decide) (by decide) rfl (Nat.le_of_ble_eq_true rfl) ?_
                          show sm_At p l e room_1 s m₀ args below meth c b ba D dA _ _ _ _ _ 521 [.retAddr 1, .ref 0, .ref 72, .ref 107, .int v4, .retAddr 0, .retAddr 0] [.int r81.1] (sm_hp r81.2)
                          refine j_blk hC bL_law_521 [.retAddr 1, .ref 0, .ref 72, .ref 107, .int v4, .retAddr 0, .retAddr 0] [] (sm_hp r81.2) [] rfl (sm_on) ?_
                          refine j_goto hC (tgt := 1161) dL_law_522 rfl ?_
                          refine j_blk hC bL_law_1161 [.retAddr 1, .ref 0, .ref 72, .ref 107, .int (v4 + (5 : Int32)), .retAddr 0, .retAddr 0] [] (sm_hp r81.2) [] rfl (sm_on) ?_
                          refine j_goto hC (tgt := 23) dL_law_1164 rfl ?_
                          exact sm_At.room (by omega) (by omega) (ih (v4 + (5 : Int32)) r81.2 hf)
                        · replace hf := sm_iff hc77 hf
                          by_cases hc82 : ((xs (v4).toNatClampNeg) &&& (63 : Int32)) = (10 : Int32)
                          · replace hf := sm_ift hc82 hf
                            refine j_tableIn hC (off := 486) (tgt := 525) dL_law_39 (by rw [hc82]; decide) (by rw [hc82]; decide) (by rw [hc82]; rfl) rfl ?_
                            refine j_blk hC bL_law_525 [.retAddr 1, .ref 0, .ref 72, .ref 107, .int v4, .retAddr 0, .retAddr 0] [.int (v4 + (1 : Int32)), .retAddr 1, .ref 0] (sm_hp m) [] rfl (sm_on) ?_
                            replace hf := sm_ck hf
                            obtain ⟨q83, hf⟩ := hf
                            refine j_sld hC hS hbl hbb dL_law_531 q83 ?_
                            replace hf := sm_bd hf
                            obtain ⟨r85, q84, hf⟩ := hf
                            refine j_callV hC [.int (xs (v4 + (1 : Int32)).toNatClampNeg)] [] (tX11_go (xs (v4 + (1 : Int32)).toNatClampNeg) m r85 q84) (cvL_72 rfl) dL_law_532 rfl rfl (by decide) (by decide) rfl (Nat.le_of_ble_eq_true rfl) ?_
                            show sm_At p l e room_1 s m₀ args below meth c b ba D dA _ _ _ _ _ 535 [.retAddr 1, .ref 0, .ref 72, .ref 107, .int v4, .retAddr 0, .retAddr 0] [.int r85.1] (sm_hp r85.2)
                            refine j_blk hC bL_law_535 [.retAddr 1, .ref 0, .ref 72, .ref 107, .int v4, .retAddr 0, .retAddr 0] [.int (v4 + (1 : Int32)), .retAddr 1, .ref 72] (sm_hp r85.2) [] rfl (sm_on) ?_
                            replace hf := sm_ck hf
                            obtain ⟨q86, hf⟩ := hf
                            refine j_sld hC hS hbl hbb dL_law_542 q86 ?_
                            replace hf := sm_bd hf
                            obtain ⟨r88, q87, hf⟩ := hf
                            refine j_callV hC [.int (xs (v4 + (1 : Int32)).toNatClampNeg)] [] (tX12_go (xs (v4 + (1 : Int32)).toNatClampNeg) r85.2 r88 q87) (cvL_75 rfl) dL_law_543 rfl rfl (by decide) (by decide) rfl (Nat.le_of_ble_eq_true rfl) ?_
                            show sm_At p l e room_1 s m₀ args below meth c b ba D dA _ _ _ _ _ 546 [.retAddr 1, .ref 0, .ref 72, .ref 107, .int v4, .retAddr 0, .retAddr 0] [.int r88.1] (sm_hp r88.2)
                            refine j_blk hC bL_law_546 [.retAddr 1, .ref 0, .ref 72, .ref 107, .int v4, .retAddr 0, .retAddr 0] [] (sm_hp r88.2) [] rfl (sm_on) ?_
                            refine j_goto hC (tgt := 1161) dL_law_547 rfl ?_
                            refine j_blk hC bL_law_1161 [.retAddr 1, .ref 0, .ref 72, .ref 107, .int (v4 + (5 : Int32)), .retAddr 0, .retAddr 0] [] (sm_hp r88.2) [] rfl (sm_on) ?_
                            refine j_goto hC (tgt := 23) dL_law_1164 rfl ?_
                            exact sm_At.room (by omega) (by omega) (ih (v4 + (5 : Int32)) r88.2 hf)
                          · replace hf := sm_iff hc82 hf
                            by_cases hc89 : ((xs (v4).toNatClampNeg) &&& (63 : Int32)) = (11 : Int32)
                            · replace hf := sm_ift hc89 hf
                              refine j_tableIn hC (off := 511) (tgt := 550) dL_law_39 (by rw [hc89]; decide) (by rw [hc89]; decide) (by rw [hc89]; rfl) rfl ?_
                              refine j_blk hC bL_law_550 [.retAddr 1, .ref 0, .ref 72, .ref 107, .int v4, .retAddr 0, .retAddr 0] [.ref 0] (sm_hp m) [] rfl (sm_on) ?_
                              replace hf := sm_bd hf
                              obtain ⟨r91, q90, hf⟩ := hf
                              refine j_callV hC [] [] (tX11_can m r91 q90) (cvL_76 rfl) dL_law_551 rfl rfl (by decide) (by decide) rfl (Nat.le_of_ble_eq_true rfl) ?_
                              show sm_At p l e room_1 s m₀ args below meth c b ba D dA _ _ _ _ _ 554 [.retAddr 1, .ref 0, .ref 72, .ref 107, .int v4, .retAddr 0, .retAddr 0] [.int r91] (sm_hp m)
                              refine j_blk hC bL_law_554 [.retAddr 1, .ref 0, .ref 72, .ref 107, .int v4, .retAddr 0, .retAddr 0] [.ref 72] (sm_hp m) [] rfl (sm_on) ?_
                              replace hf := sm_bd hf
                              obtain ⟨r93, q92, hf⟩ := hf
                              refine j_callV hC [] [] (tX12_can m r93 q92) (cvL_79 rfl) dL_law_556 rfl rfl (by decide) (by decide) rfl (Nat.le_of_ble_eq_true rfl) ?_
                              show sm_At p l e room_1 s m₀ args below meth c b ba D dA _ _ _ _ _ 559 [.retAddr 1, .ref 0, .ref 72, .ref 107, .int v4, .retAddr 0, .retAddr 0] [.int r93.1] (sm_hp r93.2)
                              refine j_blk hC bL_law_559 [.retAddr 1, .ref 0, .ref 72, .ref 107, .int v4, .retAddr 0, .retAddr 0] [] (sm_hp r93.2) [] rfl (sm_on) ?_
                              refine j_goto hC (tgt := 1161) dL_law_560 rfl ?_
                              refine j_blk hC bL_law_1161 [.retAddr 1, .ref 0, .ref 72, .ref 107, .int (v4 + (5 : Int32)), .retAddr 0, .retAddr 0] [] (sm_hp r93.2) [] rfl (sm_on) ?_
                              refine j_goto hC (tgt := 23) dL_law_1164 rfl ?_
                              exact sm_At.room (by omega) (by omega) (ih (v4 + (5 : Int32)) r93.2 hf)
                            · replace hf := sm_iff hc89 hf
                              by_cases hc94 : ((xs (v4).toNatClampNeg) &&& (63 : Int32)) = (12 : Int32)
                              · replace hf := sm_ift hc94 hf
                                refine j_tableIn hC (off := 524) (tgt := 563) dL_law_39 (by rw [hc94]; decide) (by rw [hc94]; decide) (by rw [hc94]; rfl) rfl ?_
                                refine j_blk hC bL_law_563 [.retAddr 1, .ref 0, .ref 72, .ref 107, .int v4, .retAddr 0, .retAddr 0] [.int (v4 + (1 : Int32)), .retAddr 1, .ref 0] (sm_hp m) [] rfl (sm_on) ?_
                                replace hf := sm_ck hf
                                obtain ⟨q95, hf⟩ := hf
                                refine j_sld hC hS hbl hbb dL_law_569 q95 ?_
                                replace hf := sm_bd hf
                                obtain ⟨r97, q96, hf⟩ := hf
                                refine j_callV hC [.int (xs (v4 + (1 : Int32)).toNatClampNeg)] [] (tX11_tour (xs (v4 + (1 : Int32)).toNatClampNeg) m r97 q96) (cvL_80 rfl) dL_law_570 rfl rfl (by decide) (by decide) rfl (Nat.le_of_ble_eq_true rfl) ?_
                                show sm_At p l e room_1 s m₀ args below meth c b ba D dA _ _ _ _ _ 573 [.retAddr 1, .ref 0, .ref 72, .ref 107, .int v4, .retAddr 0, .retAddr 0] [.int r97.1] (sm_hp r97.2)
                                refine j_blk hC bL_law_573 [.retAddr 1, .ref 0, .ref 72, .ref 107, .int v4, .retAddr 0, .retAddr 0] [.int (v4 + (1 : Int32)), .retAddr 1, .ref 72] (sm_hp r97.2) [] rfl (sm_on) ?_
                                replace hf := sm_ck hf
                                obtain ⟨q98, hf⟩ := hf
                                refine j_sld hC hS hbl hbb dL_law_580 q98 ?_
                                replace hf := sm_bd hf
                                obtain ⟨r100, q99, hf⟩ := hf
                                refine j_callV hC [.int (xs (v4 + (1 : Int32)).toNatClampNeg)] [] (tX12_tour (xs (v4 + (1 : Int32)).toNatClampNeg) r97.2 r100 q99) (cvL_83 rfl) dL_law_581 rfl rfl (by decide) (by decide) rfl (Nat.le_of_ble_eq_true rfl) ?_
                                show sm_At p l e room_1 s m₀ args below meth c b ba D dA _ _ _ _ _ 584 [.retAddr 1, .ref 0, .ref 72, .ref 107, .int v4, .retAddr 0, .retAddr 0] [.int r100.1] (sm_hp r100.2)
                                refine j_blk hC bL_law_584 [.retAddr 1, .ref 0, .ref 72, .ref 107, .int v4, .retAddr 0, .retAddr 0] [] (sm_hp r100.2) [] rfl (sm_on) ?_
                                refine j_goto hC (tgt := 1161) dL_law_585 rfl ?_
                                refine j_blk hC bL_law_1161 [.retAddr 1, .ref 0, .ref 72, .ref 107, .int (v4 + (5 : Int32)), .retAddr 0, .retAddr 0] [] (sm_hp r100.2) [] rfl (sm_on) ?_
                                refine j_goto hC (tgt := 23) dL_law_1164 rfl ?_
                                exact sm_At.room (by omega) (by omega) (ih (v4 + (5 : Int32)) r100.2 hf)
                              · replace hf := sm_iff hc94 hf
                                by_cases hc101 : ((xs (v4).toNatClampNeg) &&& (63 : Int32)) = (13 : Int32)
                                · replace hf := sm_ift hc101 hf
                                  refine j_tableIn hC (off := 549) (tgt := 588) dL_law_39 (by rw [hc101]; decide) (by rw [hc101]; decide) (by rw [hc101]; rfl) rfl ?_
                                  refine j_blk hC bL_law_588 [.retAddr 1, .ref 0, .ref 72, .ref 107, .int v4, .retAddr 0, .retAddr 0] [.int (v4 + (1 : Int32)), .retAddr 1, .ref 0] (sm_hp m) [] rfl (sm_on) ?_
                                  replace hf := sm_ck hf
                                  obtain ⟨q102, hf⟩ := hf
                                  refine j_sld hC hS hbl hbb dL_law_594 q102 ?_
                                  replace hf := sm_bd hf
                                  obtain ⟨r104, q103, hf⟩ := hf
                                  refine j_callV hC [.int (xs (v4 + (1 : Int32)).toNatClampNeg)] [] (tX11_look (xs (v4 + (1 : Int32)).toNatClampNeg) m r104 q103) (cvL_84 rfl) dL_law_595 rfl rfl (by decide) (by decide) rfl (Nat.le_of_ble_eq_true rfl) ?_
                                  show sm_At p l e room_1 s m₀ args below meth c b ba D dA _ _ _ _ _ 598 [.retAddr 1, .ref 0, .ref 72, .ref 107, .int v4, .retAddr 0, .retAddr 0] [.int r104.1] (sm_hp r104.2)
                                  refine j_blk hC bL_law_598 [.retAddr 1, .ref 0, .ref 72, .ref 107, .int v4, .retAddr 0, .retAddr 0] [.int (v4 + (1 : Int32)), .retAddr 1, .ref 72] (sm_hp r104.2) [] rfl (sm_on) ?_
                                  replace hf := sm_ck hf
                                  obtain ⟨q105, hf⟩ := hf
                                  refine j_sld hC hS hbl hbb dL_law_605 q105 ?_
                                  replace hf := sm_bd hf
                                  obtain ⟨r107, q106, hf⟩ := hf
                                  refine j_callV hC [.int (xs (v4 + (1 : Int32)).toNatClampNeg)] [] (tX12_look (xs (v4 + (1 : Int32)).toNatClampNeg) r104.2 r107 q106) (cvL_87 rfl) dL_law_606 rfl rfl (by decide) (by decide) rfl (Nat.le_of_ble_eq_true rfl) ?_
                                  show sm_At p l e room_1 s m₀ args below meth c b ba D dA _ _ _ _ _ 609 [.retAddr 1, .ref 0, .ref 72, .ref 107, .int v4, .retAddr 0, .retAddr 0] [.int r107.1] (sm_hp r107.2)
                                  refine j_blk hC bL_law_609 [.retAddr 1, .ref 0, .ref 72, .ref 107, .int v4, .retAddr 0, .retAddr 0] [] (sm_hp r107.2) [] rfl (sm_on) ?_
                                  refine j_goto hC (tgt := 1161) dL_law_610 rfl ?_
                                  refine j_blk hC bL_law_1161 [.retAddr 1, .ref 0, .ref 72, .ref 107, .int (v4 + (5 : Int32)), .retAddr 0, .retAddr 0] [] (sm_hp r107.2) [] rfl (sm_on) ?_
                                  refine j_goto hC (tgt := 23) dL_law_1164 rfl ?_
                                  exact sm_At.room (by omega) (by omega) (ih (v4 + (5 : Int32)) r107.2 hf)
                                · replace hf := sm_iff hc101 hf
                                  by_cases hc108 : ((xs (v4).toNatClampNeg) &&& (63 : Int32)) = (14 : Int32)
                                  · replace hf := sm_ift hc108 hf
                                    refine j_tableIn hC (off := 574) (tgt := 613) dL_law_39 (by rw [hc108]; decide) (by rw [hc108]; decide) (by rw [hc108]; rfl) rfl ?_
                                    refine j_blk hC bL_law_613 [.retAddr 1, .ref 0, .ref 72, .ref 107, .int v4, .retAddr 0, .retAddr 0] [.int (v4 + (1 : Int32)), .retAddr 1, .ref 0] (sm_hp m) [] rfl (sm_on) ?_
                                    replace hf := sm_ck hf
                                    obtain ⟨q109, hf⟩ := hf
                                    refine j_sld hC hS hbl hbb dL_law_619 q109 ?_
                                    replace hf := sm_bd hf
                                    obtain ⟨r111, q110, hf⟩ := hf
                                    refine j_callV hC [.int (xs (v4 + (1 : Int32)).toNatClampNeg)] [] (tX11_meets (xs (v4 + (1 : Int32)).toNatClampNeg) m r111 q110) (cvL_88 rfl) dL_law_620 rfl rfl (by decide) (by decide) rfl (Nat.le_of_ble_eq_true rfl) ?_
                                    show sm_At p l e room_1 s m₀ args below meth c b ba D dA _ _ _ _ _ 623 [.retAddr 1, .ref 0, .ref 72, .ref 107, .int v4, .retAddr 0, .retAddr 0] [.int r111.1] (sm_hp r111.2)
                                    refine j_blk hC bL_law_623 [.retAddr 1, .ref 0, .ref 72, .ref 107, .int v4, .retAddr 0, .retAddr 0] [.int (v4 + (1 : Int32)), .retAddr 1, .ref 72] (sm_hp r111.2) [] rfl (sm_on) ?_
                                    replace hf := sm_ck hf
                                    obtain ⟨q112, hf⟩ := hf
                                    refine j_sld hC hS hbl hbb dL_law_630 q112 ?_
                                    replace hf := sm_bd hf
                                    obtain ⟨r114, q113, hf⟩ := hf
                                    refine j_callV hC [.int (xs (v4 + (1 : Int32)).toNatClampNeg)] [] (tX12_meets (xs (v4 + (1 : Int32)).toNatClampNeg) r111.2 r114 q113) (cvL_91 rfl) dL_law_631 rfl rfl (by decide) (by decide) rfl (Nat.le_of_ble_eq_true rfl) ?_
                                    show sm_At p l e room_1 s m₀ args below meth c b ba D dA _ _ _ _ _ 634 [.retAddr 1, .ref 0, .ref 72, .ref 107, .int v4, .retAddr 0, .retAddr 0] [.int r114.1] (sm_hp r114.2)
                                    refine j_blk hC bL_law_634 [.retAddr 1, .ref 0, .ref 72, .ref 107, .int v4, .retAddr 0, .retAddr 0] [] (sm_hp r114.2) [] rfl (sm_on) ?_
                                    refine j_goto hC (tgt := 1161) dL_law_635 rfl ?_
                                    refine j_blk hC bL_law_1161 [.retAddr 1, .ref 0, .ref 72, .ref 107, .int (v4 + (5 : Int32)), .retAddr 0, .retAddr 0] [] (sm_hp r114.2) [] rfl (sm_on) ?_
                                    refine j_goto hC (tgt := 23) dL_law_1164 rfl ?_
                                    exact sm_At.room (by omega) (by omega) (ih (v4 + (5 : Int32)) r114.2 hf)
                                  · replace hf := sm_iff hc108 hf
                                    by_cases hc115 : ((xs (v4).toNatClampNeg) &&& (63 : Int32)) = (15 : Int32)
                                    · replace hf := sm_ift hc115 hf
                                      refine j_tableIn hC (off := 599) (tgt := 638) dL_law_39 (by rw [hc115]; decide) (by rw [hc115]; decide) (by rw [hc115]; rfl) rfl ?_
                                      refine j_blk hC bL_law_638 [.retAddr 1, .ref 0, .ref 72, .ref 107, .int v4, .retAddr 0, .retAddr 0] [.ref 0] (sm_hp m) [] rfl (sm_on) ?_
                                      replace hf := sm_bd hf
                                      obtain ⟨r117, q116, hf⟩ := hf
                                      refine j_callV hC [] [] (tX11_apart m r117 q116) (cvL_92 rfl) dL_law_639 rfl rfl (by decide) (by decide) rfl (Nat.le_of_ble_eq_true rfl) ?_
                                      show sm_At p l e room_1 s m₀ args below meth c b ba D dA _ _ _ _ _ 642 [.retAddr 1, .ref 0, .ref 72, .ref 107, .int v4, .retAddr 0, .retAddr 0] [.int r117.1] (sm_hp r117.2)
                                      refine j_blk hC bL_law_642 [.retAddr 1, .ref 0, .ref 72, .ref 107, .int v4, .retAddr 0, .retAddr 0] [.ref 72, .int r117.1] (sm_hp r117.2) [] rfl (sm_on) ?_
                                      replace hf := sm_bd hf
                                      obtain ⟨r119, q118, hf⟩ := hf
                                      refine j_callV hC [] [.int r117.1] (tX12_apart r117.2 r119 q118) (cvL_95 rfl) dL_law_643 rfl rfl (by decide) (by decide) rfl (Nat.le_of_ble_eq_true rfl) ?_
                                      show sm_At p l e room_1 s m₀ args below meth c b ba D dA _ _ _ _ _ 646 [.retAddr 1, .ref 0, .ref 72, .ref 107, .int v4, .retAddr 0, .retAddr 0] [.int r119.1, .int r117.1] (sm_hp r119.2)
                                      refine j_icmp_eq hC (tgt := 1161) dL_law_646 rfl (fun hc => ?_) (fun hc => ?_)
                                      · replace hf := sm_ift hc hf
                                        refine j_blk hC bL_law_1161 [.retAddr 1, .ref 0, .ref 72, .ref 107, .int (v4 + (5 : Int32)), .retAddr 0, .retAddr 0] [] (sm_hp r119.2) [] rfl (sm_on) ?_
                                        refine j_goto hC (tgt := 23) dL_law_1164 rfl ?_
                                        exact sm_At.room (by omega) (by omega) (ih (v4 + (5 : Int32)) r119.2 hf)
                                      · replace hf := sm_iff hc hf
                                        refine j_blk hC bL_law_649 [.retAddr 1, .ref 0, .ref 72, .ref 107, .int v4, .retAddr 0, .retAddr 0] [.int (0 : Int32)] (sm_hp r119.2) [] rfl (sm_on) ?_
                                        cases hf
                                    · replace hf := sm_iff hc115 hf
                                      by_cases hc120 : ((xs (v4).toNatClampNeg) &&& (63 : Int32)) = (16 : Int32)
                                      · replace hf := sm_ift hc120 hf
                                        refine j_tableIn hC (off := 612) (tgt := 651) dL_law_39 (by rw [hc120]; decide) (by rw [hc120]; decide) (by rw [hc120]; rfl) rfl ?_
                                        refine j_blk hC bL_law_651 [.retAddr 1, .ref 0, .ref 72, .ref 107, .int v4, .retAddr 0, .retAddr 0] [.int (v4 + (1 : Int32)), .retAddr 1, .ref 0] (sm_hp m) [] rfl (sm_on) ?_
                                        replace hf := sm_ck hf
                                        obtain ⟨q121, hf⟩ := hf
                                        refine j_sld hC hS hbl hbb dL_law_657 q121 ?_
                                        replace hf := sm_bd hf
                                        obtain ⟨r123, q122, hf⟩ := hf
                                        refine j_callV hC [.int (xs (v4 + (1 : Int32)).toNatClampNeg)] [] (tX11_season (xs (v4 + (1 : Int32)).toNatClampNeg) m r123 q122) (cvL_96 rfl) dL_law_658 rfl rfl (by decide) (by decide) rfl (Nat.le_of_ble_eq_true rfl) ?_
                                        show sm_At p l e room_1 s m₀ args below meth c b ba D dA _ _ _ _ _ 661 [.retAddr 1, .ref 0, .ref 72, .ref 107, .int v4, .retAddr 0, .retAddr 0] [.int r123.1] (sm_hp r123.2)
                                        refine j_blk hC bL_law_661 [.retAddr 1, .ref 0, .ref 72, .ref 107, .int v4, .retAddr 0, .retAddr 0] [.int (v4 + (1 : Int32)), .retAddr 1, .ref 72] (sm_hp r123.2) [] rfl (sm_on) ?_
                                        replace hf := sm_ck hf
                                        obtain ⟨q124, hf⟩ := hf
                                        refine j_sld hC hS hbl hbb dL_law_668 q124 ?_
                                        replace hf := sm_bd hf
                                        obtain ⟨r126, q125, hf⟩ := hf
                                        refine j_callV hC [.int (xs (v4 + (1 : Int32)).toNatClampNeg)] [] (tX12_season (xs (v4 + (1 : Int32)).toNatClampNeg) r123.2 r126 q125) (cvL_99 rfl) dL_law_669 rfl rfl (by decide) (by decide) rfl (Nat.le_of_ble_eq_true rfl) ?_
                                        show sm_At p l e room_1 s m₀ args below meth c b ba D dA _ _ _ _ _ 672 [.retAddr 1, .ref 0, .ref 72, .ref 107, .int v4, .retAddr 0, .retAddr 0] [.int r126.1] (sm_hp r126.2)
                                        refine j_blk hC bL_law_672 [.retAddr 1, .ref 0, .ref 72, .ref 107, .int v4, .retAddr 0, .retAddr 0] [] (sm_hp r126.2) [] rfl (sm_on) ?_
                                        refine j_goto hC (tgt := 1161) dL_law_673 rfl ?_
                                        refine j_blk hC bL_law_1161 [.retAddr 1, .ref 0, .ref 72, .ref 107, .int (v4 + (5 : Int32)), .retAddr 0, .retAddr 0] [] (sm_hp r126.2) [] rfl (sm_on) ?_
                                        refine j_goto hC (tgt := 23) dL_law_1164 rfl ?_
                                        exact sm_At.room (by omega) (by omega) (ih (v4 + (5 : Int32)) r126.2 hf)
                                      · replace hf := sm_iff hc120 hf
                                        by_cases hc127 : ((xs (v4).toNatClampNeg) &&& (63 : Int32)) = (17 : Int32)
                                        · replace hf := sm_ift hc127 hf
                                          refine j_tableIn hC (off := 637) (tgt := 676) dL_law_39 (by rw [hc127]; decide) (by rw [hc127]; decide) (by rw [hc127]; rfl) rfl ?_
                                          refine j_blk hC bL_law_676 [.retAddr 1, .ref 0, .ref 72, .ref 107, .int v4, .retAddr 0, .retAddr 0] [.ref 0] (sm_hp m) [] rfl (sm_on) ?_
                                          replace hf := sm_bd hf
                                          obtain ⟨r129, q128, hf⟩ := hf
                                          refine j_callV hC [] [] (tX11_odd m r129 q128) (cvL_100 rfl) dL_law_677 rfl rfl (by decide) (by decide) rfl (Nat.le_of_ble_eq_true rfl) ?_
                                          show sm_At p l e room_1 s m₀ args below meth c b ba D dA _ _ _ _ _ 680 [.retAddr 1, .ref 0, .ref 72, .ref 107, .int v4, .retAddr 0, .retAddr 0] [.int r129.1] (sm_hp r129.2)
                                          refine j_blk hC bL_law_680 [.retAddr 1, .ref 0, .ref 72, .ref 107, .int v4, .retAddr 0, .retAddr 0] [.ref 72] (sm_hp r129.2) [] rfl (sm_on) ?_
                                          replace hf := sm_bd hf
                                          obtain ⟨r131, q130, hf⟩ := hf
                                          refine j_callV hC [] [] (tX12_odd r129.2 r131 q130) (cvL_103 rfl) dL_law_682 rfl rfl (by decide) (by decide) rfl (Nat.le_of_ble_eq_true rfl) ?_
                                          show sm_At p l e room_1 s m₀ args below meth c b ba D dA _ _ _ _ _ 685 [.retAddr 1, .ref 0, .ref 72, .ref 107, .int v4, .retAddr 0, .retAddr 0] [.int r131.1] (sm_hp r131.2)
                                          refine j_blk hC bL_law_685 [.retAddr 1, .ref 0, .ref 72, .ref 107, .int v4, .retAddr 0, .retAddr 0] [] (sm_hp r131.2) [] rfl (sm_on) ?_
                                          refine j_goto hC (tgt := 1161) dL_law_686 rfl ?_
                                          refine j_blk hC bL_law_1161 [.retAddr 1, .ref 0, .ref 72, .ref 107, .int (v4 + (5 : Int32)), .retAddr 0, .retAddr 0] [] (sm_hp r131.2) [] rfl (sm_on) ?_
                                          refine j_goto hC (tgt := 23) dL_law_1164 rfl ?_
                                          exact sm_At.room (by omega) (by omega) (ih (v4 + (5 : Int32)) r131.2 hf)
                                        · replace hf := sm_iff hc127 hf
                                          by_cases hc132 : ((xs (v4).toNatClampNeg) &&& (63 : Int32)) = (18 : Int32)
                                          · replace hf := sm_ift hc132 hf
                                            refine j_tableIn hC (off := 650) (tgt := 689) dL_law_39 (by rw [hc132]; decide) (by rw [hc132]; decide) (by rw [hc132]; rfl) rfl ?_
                                            refine j_blk hC bL_law_689 [.retAddr 1, .ref 0, .ref 72, .ref 107, .int v4, .retAddr 0, .retAddr 0] [.ref 0] (sm_hp m) [] rfl (sm_on) ?_
                                            replace hf := sm_bd hf
                                            obtain ⟨r134, q133, hf⟩ := hf
                                            refine j_callV hC [] [] (tX11_men m r134 q133) (cvL_104 rfl) dL_law_690 rfl rfl (by decide) (by decide) rfl (Nat.le_of_ble_eq_true rfl) ?_
                                            show sm_At p l e room_1 s m₀ args below meth c b ba D dA _ _ _ _ _ 693 [.retAddr 1, .ref 0, .ref 72, .ref 107, .int v4, .retAddr 0, .retAddr 0] [.int r134.1] (sm_hp r134.2)
                                            refine j_blk hC bL_law_693 [.retAddr 1, .ref 0, .ref 72, .ref 107, .int v4, .retAddr 0, .retAddr 0] [.ref 72] (sm_hp r134.2) [] rfl (sm_on) ?_
                                            replace hf := sm_bd hf
                                            obtain ⟨r136, q135, hf⟩ := hf
                                            refine j_callV hC [] [] (tX12_men r134.2 r136 q135) (cvL_107 rfl) dL_law_695 rfl rfl (by decide) (by decide) rfl (Nat.le_of_ble_eq_true rfl) ?_
                                            show sm_At p l e room_1 s m₀ args below meth c b ba D dA _ _ _ _ _ 698 [.retAddr 1, .ref 0, .ref 72, .ref 107, .int v4, .retAddr 0, .retAddr 0] [.int r136.1] (sm_hp r136.2)
                                            refine j_blk hC bL_law_698 [.retAddr 1, .ref 0, .ref 72, .ref 107, .int v4, .retAddr 0, .retAddr 0] [] (sm_hp r136.2) [] rfl (sm_on) ?_
                                            refine j_goto hC (tgt := 1161) dL_law_699 rfl ?_
                                            refine j_blk hC bL_law_1161 [.retAddr 1, .ref 0, .ref 72, .ref 107, .int (v4 + (5 : Int32)), .retAddr 0, .retAddr 0] [] (sm_hp r136.2) [] rfl (sm_on) ?_
                                            refine j_goto hC (tgt := 23) dL_law_1164 rfl ?_
                                            exact sm_At.room (by omega) (by omega) (ih (v4 + (5 : Int32)) r136.2 hf)
                                          · replace hf := sm_iff hc132 hf
                                            by_cases hc137 : ((xs (v4).toNatClampNeg) &&& (63 : Int32)) = (19 : Int32)
                                            · replace hf := sm_ift hc137 hf
                                              refine j_tableIn hC (off := 663) (tgt := 702) dL_law_39 (by rw [hc137]; decide) (by rw [hc137]; decide) (by rw [hc137]; rfl) rfl ?_
                                              refine j_blk hC bL_law_702 [.retAddr 1, .ref 0, .ref 72, .ref 107, .int v4, .retAddr 0, .retAddr 0] [.int (v4 + (1 : Int32)), .retAddr 1, .ref 0] (sm_hp m) [] rfl (sm_on) ?_
                                              replace hf := sm_ck hf
                                              obtain ⟨q138, hf⟩ := hf
                                              refine j_sld hC hS hbl hbb dL_law_708 q138 ?_
                                              replace hf := sm_bd hf
                                              obtain ⟨r140, q139, hf⟩ := hf
                                              refine j_callV hC [.int (xs (v4 + (1 : Int32)).toNatClampNeg)] [] (tX11_trail (xs (v4 + (1 : Int32)).toNatClampNeg) m r140 q139) (cvL_108 rfl) dL_law_709 rfl rfl (by decide) (by decide) rfl (Nat.le_of_ble_eq_true rfl) ?_
                                              show sm_At p l e room_1 s m₀ args below meth c b ba D dA _ _ _ _ _ 712 [.retAddr 1, .ref 0, .ref 72, .ref 107, .int v4, .retAddr 0, .retAddr 0] [.int r140.1] (sm_hp r140.2)
                                              refine j_blk hC bL_law_712 [.retAddr 1, .ref 0, .ref 72, .ref 107, .int v4, .retAddr 0, .retAddr 0] [.int (v4 + (1 : Int32)), .retAddr 1, .ref 72] (sm_hp r140.2) [] rfl (sm_on) ?_
                                              replace hf := sm_ck hf
                                              obtain ⟨q141, hf⟩ := hf
                                              refine j_sld hC hS hbl hbb dL_law_719 q141 ?_
                                              replace hf := sm_bd hf
                                              obtain ⟨r143, q142, hf⟩ := hf
                                              refine j_callV hC [.int (xs (v4 + (1 : Int32)).toNatClampNeg)] [] (tX12_trail (xs (v4 + (1 : Int32)).toNatClampNeg) r140.2 r143 q142) (cvL_111 rfl) dL_law_720 rfl rfl (by decide) (by decide) rfl (Nat.le_of_ble_eq_true rfl) ?_
                                              show sm_At p l e room_1 s m₀ args below meth c b ba D dA _ _ _ _ _ 723 [.retAddr 1, .ref 0, .ref 72, .ref 107, .int v4, .retAddr 0, .retAddr 0] [.int r143.1] (sm_hp r143.2)
                                              refine j_blk hC bL_law_723 [.retAddr 1, .ref 0, .ref 72, .ref 107, .int v4, .retAddr 0, .retAddr 0] [] (sm_hp r143.2) [] rfl (sm_on) ?_
                                              refine j_goto hC (tgt := 1161) dL_law_724 rfl ?_
                                              refine j_blk hC bL_law_1161 [.retAddr 1, .ref 0, .ref 72, .ref 107, .int (v4 + (5 : Int32)), .retAddr 0, .retAddr 0] [] (sm_hp r143.2) [] rfl (sm_on) ?_
                                              refine j_goto hC (tgt := 23) dL_law_1164 rfl ?_
                                              exact sm_At.room (by omega) (by omega) (ih (v4 + (5 : Int32)) r143.2 hf)
                                            · replace hf := sm_iff hc137 hf
                                              by_cases hc144 : ((xs (v4).toNatClampNeg) &&& (63 : Int32)) = (20 : Int32)
                                              · replace hf := sm_ift hc144 hf
                                                refine j_tableIn hC (off := 688) (tgt := 727) dL_law_39 (by rw [hc144]; decide) (by rw [hc144]; decide) (by rw [hc144]; rfl) rfl ?_
                                                refine j_blk hC bL_law_727 [.retAddr 1, .ref 0, .ref 72, .ref 107, .int v4, .retAddr 0, .retAddr 0] [.ref 0] (sm_hp m) [] rfl (sm_on) ?_
                                                replace hf := sm_bd hf
                                                obtain ⟨r146, q145, hf⟩ := hf
                                                refine j_callV hC [] [] (tX11_round m r146 q145) (cvL_112 rfl) dL_law_728 rfl rfl (by decide) (by decide) rfl (Nat.le_of_ble_eq_true rfl) ?_
                                                show sm_At p l e room_1 s m₀ args below meth c b ba D dA _ _ _ _ _ 731 [.retAddr 1, .ref 0, .ref 72, .ref 107, .int v4, .retAddr 0, .retAddr 0] [.int r146.1] (sm_hp r146.2)
                                                refine j_blk hC bL_law_731 [.retAddr 1, .ref 0, .ref 72, .ref 107, .int v4, .retAddr 0, .retAddr 0] [.ref 72] (sm_hp r146.2) [] rfl (sm_on) ?_
                                                replace hf := sm_bd hf
                                                obtain ⟨r148, q147, hf⟩ := hf
                                                refine j_callV hC [] [] (tX12_round r146.2 r148 q147) (cvL_115 rfl) dL_law_733 rfl rfl (by decide) (by decide) rfl (Nat.le_of_ble_eq_true rfl) ?_
                                                show sm_At p l e room_1 s m₀ args below meth c b ba D dA _ _ _ _ _ 736 [.retAddr 1, .ref 0, .ref 72, .ref 107, .int v4, .retAddr 0, .retAddr 0] [.int r148.1] (sm_hp r148.2)
                                                refine j_blk hC bL_law_736 [.retAddr 1, .ref 0, .ref 72, .ref 107, .int v4, .retAddr 0, .retAddr 0] [] (sm_hp r148.2) [] rfl (sm_on) ?_
                                                refine j_goto hC (tgt := 1161) dL_law_737 rfl ?_
                                                refine j_blk hC bL_law_1161 [.retAddr 1, .ref 0, .ref 72, .ref 107, .int (v4 + (5 : Int32)), .retAddr 0, .retAddr 0] [] (sm_hp r148.2) [] rfl (sm_on) ?_
                                                refine j_goto hC (tgt := 23) dL_law_1164 rfl ?_
                                                exact sm_At.room (by omega) (by omega) (ih (v4 + (5 : Int32)) r148.2 hf)
                                              · replace hf := sm_iff hc144 hf
                                                by_cases hc149 : ((xs (v4).toNatClampNeg) &&& (63 : Int32)) = (21 : Int32)
                                                · replace hf := sm_ift hc149 hf
                                                  refine j_tableIn hC (off := 701) (tgt := 740) dL_law_39 (by rw [hc149]; decide) (by rw [hc149]; decide) (by rw [hc149]; rfl) rfl ?_
                                                  refine j_blk hC bL_law_740 [.retAddr 1, .ref 0, .ref 72, .ref 107, .int v4, .retAddr 0, .retAddr 0] [.ref 0] (sm_hp m) [] rfl (sm_on) ?_
                                                  replace hf := sm_bd hf
                                                  obtain ⟨r151, q150, hf⟩ := hf
                                                  refine j_callV hC [] [] (tX11_closed m r151 q150) (cvL_116 rfl) dL_law_741 rfl rfl (by decide) (by decide) rfl (Nat.le_of_ble_eq_true rfl) ?_
                                                  show sm_At p l e room_1 s m₀ args below meth c b ba D dA _ _ _ _ _ 744 [.retAddr 1, .ref 0, .ref 72, .ref 107, .int v4, .retAddr 0, .retAddr 0] [.int r151.1] (sm_hp r151.2)
                                                  refine j_blk hC bL_law_744 [.retAddr 1, .ref 0, .ref 72, .ref 107, .int v4, .retAddr 0, .retAddr 0] [.ref 72] (sm_hp r151.2) [] rfl (sm_on) ?_
                                                  replace hf := sm_bd hf
                                                  obtain ⟨r153, q152, hf⟩ := hf
                                                  refine j_callV hC [] [] (tX12_closed r151.2 r153 q152) (cvL_119 rfl) dL_law_746 rfl rfl (by decide) (by decide) rfl (Nat.le_of_ble_eq_true rfl) ?_
                                                  show sm_At p l e room_1 s m₀ args below meth c b ba D dA _ _ _ _ _ 749 [.retAddr 1, .ref 0, .ref 72, .ref 107, .int v4, .retAddr 0, .retAddr 0] [.int r153.1] (sm_hp r153.2)
                                                  refine j_blk hC bL_law_749 [.retAddr 1, .ref 0, .ref 72, .ref 107, .int v4, .retAddr 0, .retAddr 0] [] (sm_hp r153.2) [] rfl (sm_on) ?_
                                                  refine j_goto hC (tgt := 1161) dL_law_750 rfl ?_
                                                  refine j_blk hC bL_law_1161 [.retAddr 1, .ref 0, .ref 72, .ref 107, .int (v4 + (5 : Int32)), .retAddr 0, .retAddr 0] [] (sm_hp r153.2) [] rfl (sm_on) ?_
                                                  refine j_goto hC (tgt := 23) dL_law_1164 rfl ?_
                                                  exact sm_At.room (by omega) (by omega) (ih (v4 + (5 : Int32)) r153.2 hf)
                                                · replace hf := sm_iff hc149 hf
                                                  by_cases hc154 : ((xs (v4).toNatClampNeg) &&& (63 : Int32)) = (22 : Int32)
                                                  · replace hf := sm_ift hc154 hf
                                                    refine j_tableIn hC (off := 714) (tgt := 753) dL_law_39 (by rw [hc154]; decide) (by rw [hc154]; decide) (by rw [hc154]; rfl) rfl ?_
                                                    refine j_blk hC bL_law_753 [.retAddr 1, .ref 0, .ref 72, .ref 107, .int v4, .retAddr 0, .retAddr 0] [.ref 0] (sm_hp m) [] rfl (sm_on) ?_
                                                    replace hf := sm_bd hf
                                                    obtain ⟨r156, q155, hf⟩ := hf
                                                    refine j_callV hC [] [] (tX11_open m r156 q155) (cvL_120 rfl) dL_law_754 rfl rfl (by decide) (by decide) rfl (Nat.le_of_ble_eq_true rfl) ?_
                                                    show sm_At p l e room_1 s m₀ args below meth c b ba D dA _ _ _ _ _ 757 [.retAddr 1, .ref 0, .ref 72, .ref 107, .int v4, .retAddr 0, .retAddr 0] [.int r156.1] (sm_hp r156.2)
                                                    refine j_blk hC bL_law_757 [.retAddr 1, .ref 0, .ref 72, .ref 107, .int v4, .retAddr 0, .retAddr 0] [.ref 72] (sm_hp r156.2) [] rfl (sm_on) ?_
                                                    replace hf := sm_bd hf
                                                    obtain ⟨r158, q157, hf⟩ := hf
                                                    refine j_callV hC [] [] (tX12_open r156.2 r158 q157) (cvL_123 rfl) dL_law_759 rfl rfl (by decide) (by decide) rfl (Nat.le_of_ble_eq_true rfl) ?_
                                                    show sm_At p l e room_1 s m₀ args below meth c b ba D dA _ _ _ _ _ 762 [.retAddr 1, .ref 0, .ref 72, .ref 107, .int v4, .retAddr 0, .retAddr 0] [.int r158.1] (sm_hp r158.2)
                                                    refine j_blk hC bL_law_762 [.retAddr 1, .ref 0, .ref 72, .ref 107, .int v4, .retAddr 0, .retAddr 0] [] (sm_hp r158.2) [] rfl (sm_on) ?_
                                                    refine j_goto hC (tgt := 1161) dL_law_763 rfl ?_
                                                    refine j_blk hC bL_law_1161 [.retAddr 1, .ref 0, .ref 72, .ref 107, .int (v4 + (5 : Int32)), .retAddr 0, .retAddr 0] [] (sm_hp r158.2) [] rfl (sm_on) ?_
                                                    refine j_goto hC (tgt := 23) dL_law_1164 rfl ?_
                                                    exact sm_At.room (by omega) (by omega) (ih (v4 + (5 : Int32)) r158.2 hf)
                                                  · replace hf := sm_iff hc154 hf
                                                    by_cases hc159 : ((xs (v4).toNatClampNeg) &&& (63 : Int32)) = (23 : Int32)
                                                    · replace hf := sm_ift hc159 hf
                                                      refine j_tableIn hC (off := 727) (tgt := 766) dL_law_39 (by rw [hc159]; decide) (by rw [hc159]; decide) (by rw [hc159]; rfl) rfl ?_
                                                      refine j_blk hC bL_law_766 [.retAddr 1, .ref 0, .ref 72, .ref 107, .int v4, .retAddr 0, .retAddr 0] [.int (v4 + (1 : Int32)), .retAddr 1, .ref 0] (sm_hp m) [] rfl (sm_on) ?_
                                                      replace hf := sm_ck hf
                                                      obtain ⟨q160, hf⟩ := hf
                                                      refine j_sld hC hS hbl hbb dL_law_772 q160 ?_
                                                      refine j_blk hC bL_law_773 [.retAddr 1, .ref 0, .ref 72, .ref 107, .int v4, .retAddr 0, .retAddr 0] [.int (v4 + (2 : Int32)), .retAddr 1, .int (xs (v4 + (1 : Int32)).toNatClampNeg), .ref 0] (sm_hp m) [] rfl (sm_on) ?_
                                                      replace hf := sm_ck hf
                                                      obtain ⟨q161, hf⟩ := hf
                                                      refine j_sld hC hS hbl hbb dL_law_778 q161 ?_
                                                      replace hf := sm_bd hf
                                                      obtain ⟨r163, q162, hf⟩ := hf
                                                      refine j_callV hC [.int (xs (v4 + (1 : Int32)).toNatClampNeg), .int (xs (v4 + (2 : Int32)).toNatClampNeg)] [] (tX11_most (xs (v4 + (1 : Int32)).toNatClampNeg) (xs (v4 + (2 : Int32)).toNatClampNeg) m r163 q162) (cvL_124 rfl) dL_law_779 rfl rfl (by decide) (by decide) rfl (Nat.le_of_ble_eq_true rfl) ?_
                                                      show sm_At p l e room_1 s m₀ args below meth c b ba D dA _ _ _ _ _ 782 [.retAddr 1, .ref 0, .ref 72, .ref 107, .int v4, .retAddr 0, .retAddr 0] [.int r163.1] (sm_hp r163.2)
                                                      refine j_blk hC bL_law_782 [.retAddr 1, .ref 0, .ref 72, .ref 107, .int v4, .retAddr 0, .retAddr 0] [.int (v4 + (1 : Int32)), .retAddr 1, .ref 72] (sm_hp r163.2) [] rfl (sm_on) ?_
                                                      replace hf := sm_ck hf
                                                      obtain ⟨q164, hf⟩ := hf
                                                      refine j_sld hC hS hbl hbb dL_law_789 q164 ?_
                                                      refine j_blk hC bL_law_790 [.retAddr 1, .ref 0, .ref 72, .ref 107, .int v4, .retAddr 0, .retAddr 0] [.int (v4 + (2 : Int32)), .retAddr 1, .int (xs (v4 + (1 : Int32)).toNatClampNeg), .ref 72] (sm_hp r163.2) [] rfl (sm_on) ?_
                                                      replace hf := sm_ck hf
                                                      obtain ⟨q165, hf⟩ := hf
                                                      refine j_sld hC hS hbl hbb dL_law_795 q165 ?_
                                                      replace hf := sm_bd hf
                                                      obtain ⟨r167, q166, hf⟩ := hf
                                                      refine j_callV hC [.int (xs (v4 + (1 : Int32)).toNatClampNeg), .int (xs (v4 + (2 : Int32)).toNatClampNeg)] [] (tX12_most (xs (v4 + (1 : Int32)).toNatClampNeg) (xs (v4 + (2 : Int32)).toNatClampNeg) r163.2 r167 q166) (cvL_127 rfl) dL_law_796 rfl rfl (by decide) (by decide) rfl (Nat.le_of_ble_eq_true rfl) ?_
                                                      show sm_At p l e room_1 s m₀ args below meth c b ba D dA _ _ _ _ _ 799 [.retAddr 1, .ref 0, .ref 72, .ref 107, .int v4, .retAddr 0, .retAddr 0] [.int r167.1] (sm_hp r167.2)
                                                      refine j_blk hC bL_law_799 [.retAddr 1, .ref 0, .ref 72, .ref 107, .int v4, .retAddr 0, .retAddr 0] [] (sm_hp r167.2) [] rfl (sm_on) ?_
                                                      refine j_goto hC (tgt := 1161) dL_law_800 rfl ?_
                                                      refine j_blk hC bL_law_1161 [.retAddr 1, .ref 0, .ref 72, .ref 107, .int (v4 + (5 : Int32)), .retAddr 0, .retAddr 0] [] (sm_hp r167.2) [] rfl (sm_on) ?_
                                                      refine j_goto hC (tgt := 23) dL_law_1164 rfl ?_
                                                      exact sm_At.room (by omega) (by omega) (ih (v4 + (5 : Int32)) r167.2 hf)
                                                    · replace hf := sm_iff hc159 hf
                                                      by_cases hc168 : ((xs (v4).toNatClampNeg) &&& (63 : Int32)) = (24 : Int32)
                                                      · replace hf := sm_ift hc168 hf
                                                        refine j_tableIn hC (off := 764) (tgt := 803) dL_law_39 (by rw [hc168]; decide) (by rw [hc168]; decide) (by rw [hc168]; rfl) rfl ?_
                                                        refine j_blk hC bL_law_803 [.retAddr 1, .ref 0, .ref 72, .ref 107, .int v4, .retAddr 0, .retAddr 0] [.int (v4 + (1 : Int32)), .retAddr 1, .ref 0] (sm_hp m) [] rfl (sm_on) ?_
                                                        replace hf := sm_ck hf
                                                        obtain ⟨q169, hf⟩ := hf
                                                        refine j_sld hC hS hbl hbb dL_law_809 q169 ?_
                                                        refine j_blk hC bL_law_810 [.retAddr 1, .ref 0, .ref 72, .ref 107, .int v4, .retAddr 0, .retAddr 0] [.int (v4 + (2 : Int32)), .retAddr 1, .int (xs (v4 + (1 : Int32)).toNatClampNeg), .ref 0] (sm_hp m) [] rfl (sm_on) ?_
                                                        replace hf := sm_ck hf
                                                        obtain ⟨q170, hf⟩ := hf
                                                        refine j_sld hC hS hbl hbb dL_law_815 q170 ?_
                                                        replace hf := sm_bd hf
                                                        obtain ⟨r172, q171, hf⟩ := hf
                                                        refine j_callV hC [.int (xs (v4 + (1 : Int32)).toNatClampNeg), .int (xs (v4 + (2 : Int32)).toNatClampNeg)] [] (tX11_home (xs (v4 + (1 : Int32)).toNatClampNeg) (xs (v4 + (2 : Int32)).toNatClampNeg) m r172 q171) (cvL_128 rfl) dL_law_816 rfl rfl (by decide) (by decide) rfl (Nat.le_of_ble_eq_true rfl) ?_
                                                        show sm_At p l e room_1 s m₀ args below meth c b ba D dA _ _ _ _ _ 819 [.retAddr 1, .ref 0, .ref 72, .ref 107, .int v4, .retAddr 0, .retAddr 0] [.int r172.1] (sm_hp r172.2)
                                                        refine j_blk hC bL_law_819 [.retAddr 1, .ref 0, .ref 72, .ref 107, .int v4, .retAddr 0, .retAddr 0] [.int (v4 + (1 : Int32)), .retAddr 1, .ref 72] (sm_hp r172.2) [] rfl (sm_on) ?_
                                                        replace hf := sm_ck hf
                                                        obtain ⟨q173, hf⟩ := hf
                                                        refine j_sld hC hS hbl hbb dL_law_826 q173 ?_
                                                        refine j_blk hC bL_law_827 [.retAddr 1, .ref 0, .ref 72, .ref 107, .int v4, .retAddr 0, .retAddr 0] [.int (v4 + (2 : Int32)), .retAddr 1, .int (xs (v4 + (1 : Int32)).toNatClampNeg), .ref 72] (sm_hp r172.2) [] rfl (sm_on) ?_
                                                        replace hf := sm_ck hf
                                                        obtain ⟨q174, hf⟩ := hf
                                                        refine j_sld hC hS hbl hbb dL_law_832 q174 ?_
                                                        replace hf := sm_bd hf
                                                        obtain ⟨r176, q175, hf⟩ := hf
                                                        refine j_callV hC [.int (xs (v4 + (1 : Int32)).toNatClampNeg), .int (xs (v4 + (2 : Int32)).toNatClampNeg)] [] (tX12_home (xs (v4 + (1 : Int32)).toNatClampNeg) (xs (v4 + (2 : Int32)).toNatClampNeg) r172.2 r176 q175) (cvL_131 rfl) dL_law_833 rfl rfl (by decide) (by decide) rfl (Nat.le_of_ble_eq_true rfl) ?_
                                                        show sm_At p l e room_1 s m₀ args below meth c b ba D dA _ _ _ _ _ 836 [.retAddr 1, .ref 0, .ref 72, .ref 107, .int v4, .retAddr 0, .retAddr 0] [.int r176.1] (sm_hp r176.2)
                                                        refine j_blk hC bL_law_836 [.retAddr 1, .ref 0, .ref 72, .ref 107, .int v4, .retAddr 0, .retAddr 0] [] (sm_hp r176.2) [] rfl (sm_on) ?_
                                                        refine j_goto hC (tgt := 1161) dL_law_837 rfl ?_
                                                        refine j_blk hC bL_law_1161 [.retAddr 1, .ref 0, .ref 72, .ref 107, .int (v4 + (5 : Int32)), .retAddr 0, .retAddr 0] [] (sm_hp r176.2) [] rfl (sm_on) ?_
                                                        refine j_goto hC (tgt := 23) dL_law_1164 rfl ?_
                                                        exact sm_At.room (by omega) (by omega) (ih (v4 + (5 : Int32)) r176.2 hf)
                                                      · replace hf := sm_iff hc168 hf
                                                        by_cases hc177 : ((xs (v4).toNatClampNeg) &&& (63 : Int32)) = (25 : Int32)
                                                        · replace hf := sm_ift hc177 hf
                                                          refine j_tableIn hC (off := 801) (tgt := 840) dL_law_39 (by rw [hc177]; decide) (by rw [hc177]; decide) (by rw [hc177]; rfl) rfl ?_
                                                          refine j_blk hC bL_law_840 [.retAddr 1, .ref 0, .ref 72, .ref 107, .int v4, .retAddr 0, .retAddr 0] [.int (v4 + (1 : Int32)), .retAddr 1, .ref 0] (sm_hp m) [] rfl (sm_on) ?_
                                                          replace hf := sm_ck hf
                                                          obtain ⟨q178, hf⟩ := hf
                                                          refine j_sld hC hS hbl hbb dL_law_846 q178 ?_
                                                          refine j_blk hC bL_law_847 [.retAddr 1, .ref 0, .ref 72, .ref 107, .int v4, .retAddr 0, .retAddr 0] [.int (v4 + (2 : Int32)), .retAddr 1, .int (xs (v4 + (1 : Int32)).toNatClampNeg), .ref 0] (sm_hp m) [] rfl (sm_on) ?_
                                                          replace hf := sm_ck hf
                                                          obtain ⟨q179, hf⟩ := hf
                                                          refine j_sld hC hS hbl hbb dL_law_852 q179 ?_
                                                          replace hf := sm_bd hf
                                                          obtain ⟨r181, q180, hf⟩ := hf
                                                          refine j_callV hC [.int (xs (v4 + (1 : Int32)).toNatClampNeg), .int (xs (v4 + (2 : Int32)).toNatClampNeg)] [] (tX11_soon (xs (v4 + (1 : Int32)).toNatClampNeg) (xs (v4 + (2 : Int32)).toNatClampNeg) m r181 q180) (cvL_132 rfl) dL_law_853 rfl rfl (by decide) (by decide) rfl (Nat.le_of_ble_eq_true rfl) ?_
                                                          show sm_At p l e room_1 s m₀ args below meth c b ba D dA _ _ _ _ _ 856 [.retAddr 1, .ref 0, .ref 72, .ref 107, .int v4, .retAddr 0, .retAddr 0] [.int r181.1] (sm_hp r181.2)
                                                          refine j_blk hC bL_law_856 [.retAddr 1, .ref 0, .ref 72, .ref 107, .int v4, .retAddr 0, .retAddr 0] [.int (v4 + (1 : Int32)), .retAddr 1, .ref 72] (sm_hp r181.2) [] rfl (sm_on) ?_
                                                          replace hf := sm_ck hf
                                                          obtain ⟨q182, hf⟩ := hf
                                                          refine j_sld hC hS hbl hbb dL_law_863 q182 ?_
                                                          refine j_blk hC bL_law_864 [.retAddr 1, .ref 0, .ref 72, .ref 107, .int v4, .retAddr 0, .retAddr 0] [.int (v4 + (2 : Int32)), .retAddr 1, .int (xs (v4 + (1 : Int32)).toNatClampNeg), .ref 72] (sm_hp r181.2) [] rfl (sm_on) ?_
                                                          replace hf := sm_ck hf
                                                          obtain ⟨q183, hf⟩ := hf
                                                          refine j_sld hC hS hbl hbb dL_law_869 q183 ?_
                                                          replace hf := sm_bd hf
                                                          obtain ⟨r185, q184, hf⟩ := hf
                                                          refine j_callV hC [.int (xs (v4 + (1 : Int32)).toNatClampNeg), .int (xs (v4 + (2 : Int32)).toNatClampNeg)] [] (tX12_soon (xs (v4 + (1 : Int32)).toNatClampNeg) (xs (v4 + (2 : Int32)).toNatClampNeg) r181.2 r185 q184) (cvL_135 rfl) dL_law_870 rfl rfl (by decide) (by decide) rfl (Nat.le_of_ble_eq_true rfl) ?_
                                                          show sm_At p l e room_1 s m₀ args below meth c b ba D dA _ _ _ _ _ 873 [.retAddr 1, .ref 0, .ref 72, .ref 107, .int v4, .retAddr 0, .retAddr 0] [.int r185.1] (sm_hp r185.2)
                                                          refine j_blk hC bL_law_873 [.retAddr 1, .ref 0, .ref 72, .ref 107, .int v4, .retAddr 0, .retAddr 0] [] (sm_hp r185.2) [] rfl (sm_on) ?_
                                                          refine j_goto hC (tgt := 1161) dL_law_874 rfl ?_
                                                          refine j_blk hC bL_law_1161 [.retAddr 1, .ref 0, .ref 72, .ref 107, .int (v4 + (5 : Int32)), .retAddr 0, .retAddr 0] [] (sm_hp r185.2) [] rfl (sm_on) ?_
                                                          refine j_goto hC (tgt := 23) dL_law_1164 rfl ?_
                                                          exact sm_At.room (by omega) (by omega) (ih (v4 + (5 : Int32)) r185.2 hf)
                                                        · replace hf := sm_iff hc177 hf
                                                          by_cases hc186 : ((xs (v4).toNatClampNeg) &&& (63 : Int32)) = (26 : Int32)
                                                          · replace hf := sm_ift hc186 hf
                                                            refine j_tableIn hC (off := 838) (tgt := 877) dL_law_39 (by rw [hc186]; decide) (by rw [hc186]; decide) (by rw [hc186]; rfl) rfl ?_
                                                            refine j_blk hC bL_law_877 [.retAddr 1, .ref 0, .ref 72, .ref 107, .int v4, .retAddr 0, .retAddr 0] [.ref 0] (sm_hp m) [] rfl (sm_on) ?_
                                                            replace hf := sm_bd hf
                                                            obtain ⟨r188, q187, hf⟩ := hf
                                                            refine j_callV hC [] [] (tX11_bridges m r188 q187) (cvL_136 rfl) dL_law_878 rfl rfl (by decide) (by decide) rfl (Nat.le_of_ble_eq_true rfl) ?_
                                                            show sm_At p l e room_1 s m₀ args below meth c b ba D dA _ _ _ _ _ 881 [.retAddr 1, .ref 0, .ref 72, .ref 107, .int v4, .retAddr 0, .retAddr 0] [.int r188] (sm_hp m)
                                                            refine j_blk hC bL_law_881 [.retAddr 1, .ref 0, .ref 72, .ref 107, .int v4, .retAddr 0, .retAddr 0] [.ref 72] (sm_hp m) [] rfl (sm_on) ?_
                                                            replace hf := sm_bd hf
                                                            obtain ⟨r190, q189, hf⟩ := hf
                                                            refine j_callV hC [] [] (tX12_bridges m r190 q189) (cvL_139 rfl) dL_law_883 rfl rfl (by decide) (by decide) rfl (Nat.le_of_ble_eq_true rfl) ?_
                                                            show sm_At p l e room_1 s m₀ args below meth c b ba D dA _ _ _ _ _ 886 [.retAddr 1, .ref 0, .ref 72, .ref 107, .int v4, .retAddr 0, .retAddr 0] [.int r190.1] (sm_hp r190.2)
                                                            refine j_blk hC bL_law_886 [.retAddr 1, .ref 0, .ref 72, .ref 107, .int v4, .retAddr 0, .retAddr 0] [] (sm_hp r190.2) [] rfl (sm_on) ?_
                                                            refine j_goto hC (tgt := 1161) dL_law_887 rfl ?_
                                                            refine j_blk hC bL_law_1161 [.retAddr 1, .ref 0, .ref 72, .ref 107, .int (v4 + (5 : Int32)), .retAddr 0, .retAddr 0] [] (sm_hp r190.2) [] rfl (sm_on) ?_
                                                            refine j_goto hC (tgt := 23) dL_law_1164 rfl ?_
                                                            exact sm_At.room (by omega) (by omega) (ih (v4 + (5 : Int32)) r190.2 hf)
                                                          · replace hf := sm_iff hc186 hf
                                                            by_cases hc191 : ((xs (v4).toNatClampNeg) &&& (63 : Int32)) = (27 : Int32)
                                                            · replace hf := sm_ift hc191 hf
                                                              refine j_tableIn hC (off := 851) (tgt := 890) dL_law_39 (by rw [hc191]; decide) (by rw [hc191]; decide) (by rw [hc191]; rfl) rfl ?_
                                                              refine j_blk hC bL_law_890 [.retAddr 1, .ref 0, .ref 72, .ref 107, .int v4, .retAddr 0, .retAddr 0] [.int (v4 + (1 : Int32)), .retAddr 1, .ref 0] (sm_hp m) [] rfl (sm_on) ?_
                                                              replace hf := sm_ck hf
                                                              obtain ⟨q192, hf⟩ := hf
                                                              refine j_sld hC hS hbl hbb dL_law_896 q192 ?_
                                                              refine j_blk hC bL_law_897 [.retAddr 1, .ref 0, .ref 72, .ref 107, .int v4, .retAddr 0, .retAddr 0] [.ref 107, .int (xs (v4 + (1 : Int32)).toNatClampNeg), .ref 0] (sm_hp m) [] rfl (sm_on) ?_
                                                              replace hf := sm_bd hf
                                                              obtain ⟨r193, q194, hf⟩ := hf
                                                              refine sm_At.room (rc' := n + 1) (rs' := 6 * n + 6) (by omega) (by omega) ?_
                                                              refine jm_callH (n := 3) [.ref 0, .int (xs (v4 + (1 : Int32)).toNatClampNeg), .ref 107] [] (tL_reach hl (xs (v4 + (1 : Int32)).toNatClampNeg) m r193 q194) hC hX ⟨by decide, by decide, by decide +kernel⟩ wmL_140 wsL_reach wIL wcwL_reach dL_law_898 rfl rfl (by decide) (by decide) (Nat.le_of_ble_eq_true rfl) ?_
                                                              show sm_At p l e room_1 s m₀ args below meth c b ba D dA _ _ _ _ _ 901 [.retAddr 1, .ref 0, .ref 72, .ref 107, .int v4, .retAddr 0, .retAddr 0] [.int r193.1] (sm_hp r193.2)
                                                              refine j_blk hC bL_law_901 [.retAddr 1, .ref 0, .ref 72, .ref 107, .int v4, .int r193.1, .retAddr 0] [.int (v4 + (1 : Int32)), .retAddr 1, .ref 72] (sm_hp r193.2) [] rfl (sm_on) ?_
                                                              replace hf := sm_ck hf
                                                              obtain ⟨q195, hf⟩ := hf
                                                              refine j_sld hC hS hbl hbb dL_law_909 q195 ?_
                                                              replace hf := sm_bd hf
                                                              obtain ⟨r197, q196, hf⟩ := hf
                                                              refine j_callV hC [.int (xs (v4 + (1 : Int32)).toNatClampNeg)] [] (tX12_reach (xs (v4 + (1 : Int32)).toNatClampNeg) r193.2 r197 q196) (cvL_143 rfl) dL_law_910 rfl rfl (by decide) (by decide) rfl (Nat.le_of_ble_eq_true rfl) ?_
                                                              show sm_At p l e room_1 s m₀ args below meth c b ba D dA _ _ _ _ _ 913 [.retAddr 1, .ref 0, .ref 72, .ref 107, .int v4, .int r193.1, .retAddr 0] [.int r197.1] (sm_hp r197.2)
                                                              refine j_blk hC bL_law_913 [.retAddr 1, .ref 0, .ref 72, .ref 107, .int v4, .int r193.1, .int r197.1] [] (sm_hp r197.2) [] rfl (sm_on) ?_
                                                              refine j_goto hC (tgt := 1161) dL_law_915 rfl ?_
                                                              refine j_blk hC bL_law_1161 [.retAddr 1, .ref 0, .ref 72, .ref 107, .int (v4 + (5 : Int32)), .int r193.1, .int r197.1] [] (sm_hp r197.2) [] rfl (sm_on) ?_
                                                              refine j_goto hC (tgt := 23) dL_law_1164 rfl ?_
                                                              refine j_wk hC [true, true, true, true, true, false, false] ?_
                                                              exact sm_At.room (by omega) (by omega) (ih (v4 + (5 : Int32)) r197.2 hf)
                                                            · replace hf := sm_iff hc191 hf
                                                              by_cases hc198 : ((xs (v4).toNatClampNeg) &&& (63 : Int32)) = (28 : Int32)
                                                              · replace hf := sm_ift hc198 hf
                                                                refine j_tableIn hC (off := 879) (tgt := 918) dL_law_39 (by rw [hc198]; decide) (by rw [hc198]; decide) (by rw [hc198]; rfl) rfl ?_
                                                                refine j_blk hC bL_law_918 [.retAddr 1, .ref 0, .ref 72, .ref 107, .int v4, .retAddr 0, .retAddr 0] [.int (v4 + (1 : Int32)), .retAddr 1, .ref 0] (sm_hp m) [] rfl (sm_on) ?_
                                                                replace hf := sm_ck hf
                                                                obtain ⟨q199, hf⟩ := hf
                                                                refine j_sld hC hS hbl hbb dL_law_924 q199 ?_
                                                                replace hf := sm_bd hf
                                                                obtain ⟨r201, q200, hf⟩ := hf
                                                                refine j_callV hC [.int (xs (v4 + (1 : Int32)).toNatClampNeg)] [] (tX11_gates (xs (v4 + (1 : Int32)).toNatClampNeg) m r201 q200) (cvL_144 rfl) dL_law_925 rfl rfl (by decide) (by decide) rfl (Nat.le_of_ble_eq_true rfl) ?_
                                                                show sm_At p l e room_1 s m₀ args below meth c b ba D dA _ _ _ _ _ 928 [.retAddr 1, .ref 0, .ref 72, .ref 107, .int v4, .retAddr 0, .retAddr 0] [.int r201.1] (sm_hp r201.2)
                                                                refine j_blk hC bL_law_928 [.retAddr 1, .ref 0, .ref 72, .ref 107, .int v4, .retAddr 0, .retAddr 0] [.int (v4 + (1 : Int32)), .retAddr 1, .ref 72] (sm_hp r201.2) [] rfl (sm_on) ?_
                                                                replace hf := sm_ck hf
                                                                obtain ⟨q202, hf⟩ := hf
                                                                refine j_sld hC hS hbl hbb dL_law_935 q202 ?_
                                                                replace hf := sm_bd hf
                                                                obtain ⟨r204, q203, hf⟩ := hf
                                                                refine j_callV hC [.int (xs (v4 + (1 : Int32)).toNatClampNeg)] [] (tX12_gates (xs (v4 + (1 : Int32)).toNatClampNeg) r201.2 r204 q203) (cvL_147 rfl) dL_law_936 rfl rfl (by decide) (by decide) rfl (Nat.le_of_ble_eq_true rfl) ?_
                                                                show sm_At p l e room_1 s m₀ args below meth c b ba D dA _ _ _ _ _ 939 [.retAddr 1, .ref 0, .ref 72, .ref 107, .int v4, .retAddr 0, .retAddr 0] [.int r204.1] (sm_hp r204.2)
                                                                refine j_blk hC bL_law_939 [.retAddr 1, .ref 0, .ref 72, .ref 107, .int v4, .retAddr 0, .retAddr 0] [] (sm_hp r204.2) [] rfl (sm_on) ?_
                                                                refine j_goto hC (tgt := 1161) dL_law_940 rfl ?_
                                                                refine j_blk hC bL_law_1161 [.retAddr 1, .ref 0, .ref 72, .ref 107, .int (v4 + (5 : Int32)), .retAddr 0, .retAddr 0] [] (sm_hp r204.2) [] rfl (sm_on) ?_
                                                                refine j_goto hC (tgt := 23) dL_law_1164 rfl ?_
                                                                exact sm_At.room (by omega) (by omega) (ih (v4 + (5 : Int32)) r204.2 hf)
                                                              · replace hf := sm_iff hc198 hf
                                                                by_cases hc205 : ((xs (v4).toNatClampNeg) &&& (63 : Int32)) = (29 : Int32)
                                                                · replace hf := sm_ift hc205 hf
                                                                  refine j_tableIn hC (off := 904) (tgt := 943) dL_law_39 (by rw [hc205]; decide) (by rw [hc205]; decide) (by rw [hc205]; rfl) rfl ?_
                                                                  refine j_blk hC bL_law_943 [.retAddr 1, .ref 0, .ref 72, .ref 107, .int v4, .retAddr 0, .retAddr 0] [.int (v4 + (1 : Int32)), .retAddr 1, .ref 0] (sm_hp m) [] rfl (sm_on) ?_
                                                                  replace hf := sm_ck hf
                                                                  obtain ⟨q206, hf⟩ := hf
                                                                  refine j_sld hC hS hbl hbb dL_law_949 q206 ?_
                                                                  refine j_blk hC bL_law_950 [.retAddr 1, .ref 0, .ref 72, .ref 107, .int v4, .retAddr 0, .retAddr 0] [.int (v4 + (2 : Int32)), .retAddr 1, .int (xs (v4 + (1 : Int32)).toNatClampNeg), .ref 0] (sm_hp m) [] rfl (sm_on) ?_
                                                                  replace hf := sm_ck hf
                                                                  obtain ⟨q207, hf⟩ := hf
                                                                  refine j_sld hC hS hbl hbb dL_law_955 q207 ?_
                                                                  replace hf := sm_bd hf
                                                                  obtain ⟨r209, q208, hf⟩ := hf
                                                                  refine j_callV hC [.int (xs (v4 + (1 : Int32)).toNatClampNeg), .int (xs (v4 + (2 : Int32)).toNatClampNeg)] [] (tX11_heard (xs (v4 + (1 : Int32)).toNatClampNeg) (xs (v4 + (2 : Int32)).toNatClampNeg) m r209 q208) (cvL_148 rfl) dL_law_956 rfl rfl (by decide) (by decide) rfl (Nat.le_of_ble_eq_true rfl) ?_
                                                                  show sm_At p l e room_1 s m₀ args below meth c b ba D dA _ _ _ _ _ 959 [.retAddr 1, .ref 0, .ref 72, .ref 107, .int v4, .retAddr 0, .retAddr 0] [.int r209.1] (sm_hp r209.2)
                                                                  refine j_blk hC bL_law_959 [.retAddr 1, .ref 0, .ref 72, .ref 107, .int v4, .retAddr 0, .retAddr 0] [.int (v4 + (1 : Int32)), .retAddr 1, .ref 72] (sm_hp r209.2) [] rfl (sm_on) ?_
                                                                  replace hf := sm_ck hf
                                                                  obtain ⟨q210, hf⟩ := hf
                                                                  refine j_sld hC hS hbl hbb dL_law_966 q210 ?_
                                                                  refine j_blk hC bL_law_967 [.retAddr 1, .ref 0, .ref 72, .ref 107, .int v4, .retAddr 0, .retAddr 0] [.int (v4 + (2 : Int32)), .retAddr 1, .int (xs (v4 + (1 : Int32)).toNatClampNeg), .ref 72] (sm_hp r209.2) [] rfl (sm_on) ?_
                                                                  replace hf := sm_ck hf
                                                                  obtain ⟨q211, hf⟩ := hf
                                                                  refine j_sld hC hS hbl hbb dL_law_972 q211 ?_
                                                                  replace hf := sm_bd hf
                                                                  obtain ⟨r213, q212, hf⟩ := hf
                                                                  refine j_callV hC [.int (xs (v4 + (1 : Int32)).toNatClampNeg), .int (xs (v4 + (2 : Int32)).toNatClampNeg)] [] (tX12_heard (xs (v4 + (1 : Int32)).toNatClampNeg) (xs (v4 + (2 : Int32)).toNatClampNeg) r209.2 r213 q212) (cvL_151 rfl) dL_law_973 rfl rfl (by decide) (by decide) rfl (Nat.le_of_ble_eq_true rfl) ?_
                                                                  show sm_At p l e room_1 s m₀ args below meth c b ba D dA _ _ _ _ _ 976 [.retAddr 1, .ref 0, .ref 72, .ref 107, .int v4, .retAddr 0, .retAddr 0] [.int r213.1] (sm_hp r213.2)
                                                                  refine j_blk hC bL_law_976 [.retAddr 1, .ref 0, .ref 72, .ref 107, .int v4, .retAddr 0, .retAddr 0] [] (sm_hp r213.2) [] rfl (sm_on) ?_
                                                                  refine j_goto hC (tgt := 1161) dL_law_977 rfl ?_
                                                                  refine j_blk hC bL_law_1161 [.retAddr 1, .ref 0, .ref 72, .ref 107, .int (v4 + (5 : Int32)), .retAddr 0, .retAddr 0] [] (sm_hp r213.2) [] rfl (sm_on) ?_
                                                                  refine j_goto hC (tgt := 23) dL_law_1164 rfl ?_
                                                                  exact sm_At.room (by omega) (by omega) (ih (v4 + (5 : Int32)) r213.2 hf)
                                                                · replace hf := sm_iff hc205 hf
                                                                  by_cases hc214 : ((xs (v4).toNatClampNeg) &&& (63 : Int32)) = (30 : Int32)
                                                                  · replace hf := sm_ift hc214 hf
                                                                    refine j_tableIn hC (off := 941) (tgt := 980) dL_law_39 (by rw [hc214]; decide) (by rw [hc214]; decide) (by rw [hc214]; rfl) rfl ?_
                                                                    refine j_blk hC bL_law_980 [.retAddr 1, .ref 0, .ref 72, .ref 107, .int v4, .retAddr 0, .retAddr 0] [.ref 0] (sm_hp m) [] rfl (sm_on) ?_
                                                                    replace hf := sm_bd hf
                                                                    obtain ⟨r216, q215, hf⟩ := hf
                                                                    refine j_callV hC [] [] (tX11_forget m r216 q215) (cvL_152 rfl) dL_law_981 rfl rfl (by decide) (by decide) rfl (Nat.le_of_ble_eq_true rfl) ?_
                                                                    show sm_At p l e room_1 s m₀ args below meth c b ba D dA _ _ _ _ _ 984 [.retAddr 1, .ref 0, .ref 72, .ref 107, .int v4, .retAddr 0, .retAddr 0] [.int r216.1] (sm_hp r216.2)
                                                                    refine j_blk hC bL_law_984 [.retAddr 1, .ref 0, .ref 72, .ref 107, .int v4, .retAddr 0, .retAddr 0] [.ref 72] (sm_hp r216.2) [] rfl (sm_on) ?_
                                                                    replace hf := sm_bd hf
                                                                    obtain ⟨r218, q217, hf⟩ := hf
                                                                    refine j_callV hC [] [] (tX12_forget r216.2 r218 q217) (cvL_155 rfl) dL_law_986 rfl rfl (by decide) (by decide) rfl (Nat.le_of_ble_eq_true rfl) ?_
                                                                    show sm_At p l e room_1 s m₀ args below meth c b ba D dA _ _ _ _ _ 989 [.retAddr 1, .ref 0, .ref 72, .ref 107, .int v4, .retAddr 0, .retAddr 0] [.int r218.1] (sm_hp r218.2)
                                                                    refine j_blk hC bL_law_989 [.retAddr 1, .ref 0, .ref 72, .ref 107, .int v4, .retAddr 0, .retAddr 0] [] (sm_hp r218.2) [] rfl (sm_on) ?_
                                                                    refine j_goto hC (tgt := 1161) dL_law_990 rfl ?_
                                                                    refine j_blk hC bL_law_1161 [.retAddr 1, .ref 0, .ref 72, .ref 107, .int (v4 + (5 : Int32)), .retAddr 0, .retAddr 0] [] (sm_hp r218.2) [] rfl (sm_on) ?_
                                                                    refine j_goto hC (tgt := 23) dL_law_1164 rfl ?_
                                                                    exact sm_At.room (by omega) (by omega) (ih (v4 + (5 : Int32)) r218.2 hf)
                                                                  · replace hf := sm_iff hc214 hf
                                                                    by_cases hc219 : ((xs (v4).toNatClampNeg) &&& (63 : Int32)) = (31 : Int32)
                                                                    · replace hf := sm_ift hc219 hf
                                                                      refine j_tableIn hC (off := 954) (tgt := 993) dL_law_39 (by rw [hc219]; decide) (by rw [hc219]; decide) (by rw [hc219]; rfl) rfl ?_
                                                                      refine j_blk hC bL_law_993 [.retAddr 1, .ref 0, .ref 72, .ref 107, .int v4, .retAddr 0, .retAddr 0] [.ref 0] (sm_hp m) [] rfl (sm_on) ?_
                                                                      replace hf := sm_bd hf
                                                                      obtain ⟨r221, q220, hf⟩ := hf
                                                                      refine j_callV hC [] [] (tX11_lands m r221 q220) (cvL_156 rfl) dL_law_994 rfl rfl (by decide) (by decide) rfl (Nat.le_of_ble_eq_true rfl) ?_
                                                                      show sm_At p l e room_1 s m₀ args below meth c b ba D dA _ _ _ _ _ 997 [.retAddr 1, .ref 0, .ref 72, .ref 107, .int v4, .retAddr 0, .retAddr 0] [.int r221.1] (sm_hp r221.2)
                                                                      refine j_blk hC bL_law_997 [.retAddr 1, .ref 0, .ref 72, .ref 107, .int v4, .retAddr 0, .retAddr 0] [.ref 72] (sm_hp r221.2) [] rfl (sm_on) ?_
                                                                      replace hf := sm_bd hf
                                                                      obtain ⟨r223, q222, hf⟩ := hf
                                                                      refine j_callV hC [] [] (tX12_lands r221.2 r223 q222) (cvL_159 rfl) dL_law_999 rfl rfl (by decide) (by decide) rfl (Nat.le_of_ble_eq_true rfl) ?_
                                                                      show sm_At p l e room_1 s m₀ args below meth c b ba D dA _ _ _ _ _ 1002 [.retAddr 1, .ref 0, .ref 72, .ref 107, .int v4, .retAddr 0, .retAddr 0] [.int r223.1] (sm_hp r223.2)
                                                                      refine j_blk hC bL_law_1002 [.retAddr 1, .ref 0, .ref 72, .ref 107, .int v4, .retAddr 0, .retAddr 0] [] (sm_hp r223.2) [] rfl (sm_on) ?_
                                                                      refine j_goto hC (tgt := 1161) dL_law_1003 rfl ?_
                                                                      refine j_blk hC bL_law_1161 [.retAddr 1, .ref 0, .ref 72, .ref 107, .int (v4 + (5 : Int32)), .retAddr 0, .retAddr 0] [] (sm_hp r223.2) [] rfl (sm_on) ?_
                                                                      refine j_goto hC (tgt := 23) dL_law_1164 rfl ?_
                                                                      exact sm_At.room (by omega) (by omega) (ih (v4 + (5 : Int32)) r223.2 hf)
                                                                    · replace hf := sm_iff hc219 hf
                                                                      by_cases hc224 : ((xs (v4).toNatClampNeg) &&& (63 : Int32)) = (32 : Int32)
                                                                      · replace hf := sm_ift hc224 hf
                                                                        refine j_tableIn hC (off := 967) (tgt := 1006) dL_law_39 (by rw [hc224]; decide) (by rw [hc224]; decide) (by rw [hc224]; rfl) rfl ?_
                                                                        refine j_blk hC bL_law_1006 [.retAddr 1, .ref 0, .ref 72, .ref 107, .int v4, .retAddr 0, .retAddr 0] [.ref 0] (sm_hp m) [] rfl (sm_on) ?_
                                                                        replace hf := sm_bd hf
                                                                        obtain ⟨r226, q225, hf⟩ := hf
                                                                        refine j_callV hC [] [] (tX11_sure m r226 q225) (cvL_160 rfl) dL_law_1007 rfl rfl (by decide) (by decide) rfl (Nat.le_of_ble_eq_true rfl) ?_
                                                                        show sm_At p l e room_1 s m₀ args below meth c b ba D dA _ _ _ _ _ 1010 [.retAddr 1, .ref 0, .ref 72, .ref 107, .int v4, .retAddr 0, .retAddr 0] [.int r226.1] (sm_hp r226.2)
                                                                        refine j_blk hC bL_law_1010 [.retAddr 1, .ref 0, .ref 72, .ref 107, .int v4, .retAddr 0, .retAddr 0] [.ref 72] (sm_hp r226.2) [] rfl (sm_on) ?_
                                                                        replace hf := sm_bd hf
                                                                        obtain ⟨r228, q227, hf⟩ := hf
                                                                        refine j_callV hC [] [] (tX12_sure r226.2 r228 q227) (cvL_163 rfl) dL_law_1012 rfl rfl (by decide) (by decide) rfl (Nat.le_of_ble_eq_true rfl) ?_
                                                                        show sm_At p l e room_1 s m₀ args below meth c b ba D dA _ _ _ _ _ 1015 [.retAddr 1, .ref 0, .ref 72, .ref 107, .int v4, .retAddr 0, .retAddr 0] [.int r228.1] (sm_hp r228.2)
                                                                        refine j_blk hC bL_law_1015 [.retAddr 1, .ref 0, .ref 72, .ref 107, .int v4, .retAddr 0, .retAddr 0] [] (sm_hp r228.2) [] rfl (sm_on) ?_
                                                                        refine j_goto hC (tgt := 1161) dL_law_1016 rfl ?_
                                                                        refine j_blk hC bL_law_1161 [.retAddr 1, .ref 0, .ref 72, .ref 107, .int (v4 + (5 : Int32)), .retAddr 0, .retAddr 0] [] (sm_hp r228.2) [] rfl (sm_on) ?_
                                                                        refine j_goto hC (tgt := 23) dL_law_1164 rfl ?_
                                                                        exact sm_At.room (by omega) (by omega) (ih (v4 + (5 : Int32)) r228.2 hf)
                                                                      · replace hf := sm_iff hc224 hf
                                                                        by_cases hc229 : ((xs (v4).toNatClampNeg) &&& (63 : Int32)) = (33 : Int32)
                                                                        · replace hf := sm_ift hc229 hf
                                                                          refine j_tableIn hC (off := 980) (tgt := 1019) dL_law_39 (by rw [hc229]; decide) (by rw [hc229]; decide) (by rw [hc229]; rfl) rfl ?_
                                                                          refine j_blk hC bL_law_1019 [.retAddr 1, .ref 0, .ref 72, .ref 107, .int v4, .retAddr 0, .retAddr 0] [.ref 0] (sm_hp m) [] rfl (sm_on) ?_
                                                                          replace hf := sm_bd hf
                                                                          obtain ⟨r231, q230, hf⟩ := hf
                                                                          refine j_callV hC [] [] (tX11_next m r231 q230) (cvL_164 rfl) dL_law_1020 rfl rfl (by decide) (by decide) rfl (Nat.le_of_ble_eq_true rfl) ?_
                                                                          show sm_At p l e room_1 s m₀ args below meth c b ba D dA _ _ _ _ _ 1023 [.retAddr 1, .ref 0, .ref 72, .ref 107, .int v4, .retAddr 0, .retAddr 0] [.int r231.1] (sm_hp r231.2)
                                                                          refine j_blk hC bL_law_1023 [.retAddr 1, .ref 0, .ref 72, .ref 107, .int v4, .retAddr 0, .retAddr 0] [.ref 72] (sm_hp r231.2) [] rfl (sm_on) ?_
                                                                          replace hf := sm_bd hf
                                                                          obtain ⟨r233, q232, hf⟩ := hf
                                                                          refine j_callV hC [] [] (tX12_next r231.2 r233 q232) (cvL_167 rfl) dL_law_1025 rfl rfl (by decide) (by decide) rfl (Nat.le_of_ble_eq_true rfl) ?_
                                                                          show sm_At p l e room_1 s m₀ args below meth c b ba D dA _ _ _ _ _ 1028 [.retAddr 1, .ref 0, .ref 72, .ref 107, .int v4, .retAddr 0, .retAddr 0] [.int r233.1] (sm_hp r233.2)
                                                                          refine j_blk hC bL_law_1028 [.retAddr 1, .ref 0, .ref 72, .ref 107, .int v4, .retAddr 0, .retAddr 0] [] (sm_hp r233.2) [] rfl (sm_on) ?_
                                                                          refine j_goto hC (tgt := 1161) dL_law_1029 rfl ?_
                                                                          refine j_blk hC bL_law_1161 [.retAddr 1, .ref 0, .ref 72, .ref 107, .int (v4 + (5 : Int32)), .retAddr 0, .retAddr 0] [] (sm_hp r233.2) [] rfl (sm_on) ?_
                                                                          refine j_goto hC (tgt := 23) dL_law_1164 rfl ?_
                                                                          exact sm_At.room (by omega) (by omega) (ih (v4 + (5 : Int32)) r233.2 hf)
                                                                        · replace hf := sm_iff hc229 hf
                                                                          by_cases hc234 : ((xs (v4).toNatClampNeg) &&& (63 : Int32)) = (34 : Int32)
                                                                          · replace hf := sm_ift hc234 hf
                                                                            refine j_tableIn hC (off := 993) (tgt := 1032) dL_law_39 (by rw [hc234]; decide) (by rw [hc234]; decide) (by rw [hc234]; rfl) rfl ?_
                                                                            refine j_blk hC bL_law_1032 [.retAddr 1, .ref 0, .ref 72, .ref 107, .int v4, .retAddr 0, .retAddr 0] [.ref 0] (sm_hp m) [] rfl (sm_on) ?_
                                                                            replace hf := sm_bd hf
                                                                            obtain ⟨r236, q235, hf⟩ := hf
                                                                            refine j_callV hC [] [] (tX11_lies m r236 q235) (cvL_168 rfl) dL_law_1033 rfl rfl (by decide) (by decide) rfl (Nat.le_of_ble_eq_true rfl) ?_
                                                                            show sm_At p l e room_1 s m₀ args below meth c b ba D dA _ _ _ _ _ 1036 [.retAddr 1, .ref 0, .ref 72, .ref 107, .int v4, .retAddr 0, .retAddr 0] [.int r236.1] (sm_hp r236.2)
                                                                            refine j_blk hC bL_law_1036 [.retAddr 1, .ref 0, .ref 72, .ref 107, .int v4, .retAddr 0, .retAddr 0] [.ref 72] (sm_hp r236.2) [] rfl (sm_on) ?_
                                                                            replace hf := sm_bd hf
                                                                            obtain ⟨r238, q237, hf⟩ := hf
                                                                            refine j_callV hC [] [] (tX12_lies r236.2 r238 q237) (cvL_171 rfl) dL_law_1038 rfl rfl (by decide) (by decide) rfl (Nat.le_of_ble_eq_true rfl) ?_
                                                                            show sm_At p l e room_1 s m₀ args below meth c b ba D dA _ _ _ _ _ 1041 [.retAddr 1, .ref 0, .ref 72, .ref 107, .int v4, .retAddr 0, .retAddr 0] [.int r238.1] (sm_hp r238.2)
                                                                            refine j_blk hC bL_law_1041 [.retAddr 1, .ref 0, .ref 72, .ref 107, .int v4, .retAddr 0, .retAddr 0] [] (sm_hp r238.2) [] rfl (sm_on) ?_
                                                                            refine j_goto hC (tgt := 1161) dL_law_1042 rfl ?_
                                                                            refine j_blk hC bL_law_1161 [.retAddr 1, .ref 0, .ref 72, .ref 107, .int (v4 + (5 : Int32)), .retAddr 0, .retAddr 0] [] (sm_hp r238.2) [] rfl (sm_on) ?_
                                                                            refine j_goto hC (tgt := 23) dL_law_1164 rfl ?_
                                                                            exact sm_At.room (by omega) (by omega) (ih (v4 + (5 : Int32)) r238.2 hf)
                                                                          · replace hf := sm_iff hc234 hf
                                                                            by_cases hc239 : ((xs (v4).toNatClampNeg) &&& (63 : Int32)) = (35 : Int32)
                                                                            · replace hf := sm_ift hc239 hf
                                                                              refine j_tableIn hC (off := 1006) (tgt := 1045) dL_law_39 (by rw [hc239]; decide) (by rw [hc239]; decide) (by rw [hc239]; rfl) rfl ?_
                                                                              refine j_blk hC bL_law_1045 [.retAddr 1, .ref 0, .ref 72, .ref 107, .int v4, .retAddr 0, .retAddr 0] [.ref 0] (sm_hp m) [] rfl (sm_on) ?_
                                                                              replace hf := sm_bd hf
                                                                              obtain ⟨r241, q240, hf⟩ := hf
                                                                              refine j_callV hC [] [] (tX11_quarrel m r241 q240) (cvL_172 rfl) dL_law_1046 rfl rfl (by decide) (by decide) rfl (Nat.le_of_ble_eq_true rfl) ?_
                                                                              show sm_At p l e room_1 s m₀ args below meth c b ba D dA _ _ _ _ _ 1049 [.retAddr 1, .ref 0, .ref 72, .ref 107, .int v4, .retAddr 0, .retAddr 0] [.int r241.1] (sm_hp r241.2)
                                                                              refine j_blk hC bL_law_1049 [.retAddr 1, .ref 0, .ref 72, .ref 107, .int v4, .retAddr 0, .retAddr 0] [.ref 72] (sm_hp r241.2) [] rfl (sm_on) ?_
                                                                              replace hf := sm_bd hf
                                                                              obtain ⟨r243, q242, hf⟩ := hf
                                                                              refine j_callV hC [] [] (tX12_quarrel r241.2 r243 q242) (cvL_175 rfl) dL_law_1051 rfl rfl (by decide) (by decide) rfl (Nat.le_of_ble_eq_true rfl) ?_
                                                                              show sm_At p l e room_1 s m₀ args below meth c b ba D dA _ _ _ _ _ 1054 [.retAddr 1, .ref 0, .ref 72, .ref 107, .int v4, .retAddr 0, .retAddr 0] [.int r243.1] (sm_hp r243.2)
                                                                              refine j_blk hC bL_law_1054 [.retAddr 1, .ref 0, .ref 72, .ref 107, .int v4, .retAddr 0, .retAddr 0] [] (sm_hp r243.2) [] rfl (sm_on) ?_
                                                                              refine j_goto hC (tgt := 1161) dL_law_1055 rfl ?_
                                                                              refine j_blk hC bL_law_1161 [.retAddr 1, .ref 0, .ref 72, .ref 107, .int (v4 + (5 : Int32)), .retAddr 0, .retAddr 0] [] (sm_hp r243.2) [] rfl (sm_on) ?_
                                                                              refine j_goto hC (tgt := 23) dL_law_1164 rfl ?_
                                                                              exact sm_At.room (by omega) (by omega) (ih (v4 + (5 : Int32)) r243.2 hf)
                                                                            · replace hf := sm_iff hc239 hf
                                                                              by_cases hc244 : ((xs (v4).toNatClampNeg) &&& (63 : Int32)) = (36 : Int32)
                                                                              · replace hf := sm_ift hc244 hf
                                                                                refine j_tableIn hC (off := 1019) (tgt := 1058) dL_law_39 (by rw [hc244]; decide) (by rw [hc244]; decide) (by rw [hc244]; rfl) rfl ?_
                                                                                refine j_blk hC bL_law_1058 [.retAddr 1, .ref 0, .ref 72, .ref 107, .int v4, .retAddr 0, .retAddr 0] [.int (v4 + (1 : Int32)), .retAddr 1, .ref 0] (sm_hp m) [] rfl (sm_on) ?_
                                                                                replace hf := sm_ck hf
                                                                                obtain ⟨q245, hf⟩ := hf
                                                                                refine j_sld hC hS hbl hbb dL_law_1064 q245 ?_
                                                                                replace hf := sm_bd hf
                                                                                obtain ⟨r247, q246, hf⟩ := hf
                                                                                refine j_callV hC [.int (xs (v4 + (1 : Int32)).toNatClampNeg)] [] (tX11_keep (xs (v4 + (1 : Int32)).toNatClampNeg) m r247 q246) (cvL_176 rfl) dL_law_1065 rfl rfl (by decide) (by decide) rfl (Nat.le_of_ble_eq_true rfl) ?_
                                                                                show sm_At p l e room_1 s m₀ args below meth c b ba D dA _ _ _ _ _ 1068 [.retAddr 1, .ref 0, .ref 72, .ref 107, .int v4, .retAddr 0, .retAddr 0] [.int r247.1] (sm_hp r247.2)
                                                                                refine j_blk hC bL_law_1068 [.retAddr 1, .ref 0, .ref 72, .ref 107, .int v4, .retAddr 0, .retAddr 0] [.int (v4 + (1 : Int32)), .retAddr 1, .ref 72] (sm_hp r247.2) [] rfl (sm_on) ?_
                                                                                replace hf := sm_ck hf
                                                                                obtain ⟨q248, hf⟩ := hf
                                                                                refine j_sld hC hS hbl hbb dL_law_1075 q248 ?_
                                                                                replace hf := sm_bd hf
                                                                                obtain ⟨r250, q249, hf⟩ := hf
                                                                                refine j_callV hC [.int (xs (v4 + (1 : Int32)).toNatClampNeg)] [] (tX12_keep (xs (v4 + (1 : Int32)).toNatClampNeg) r247.2 r250 q249) (cvL_179 rfl) dL_law_1076 rfl rfl (by decide) (by decide) rfl (Nat.le_of_ble_eq_true rfl) ?_
                                                                                show sm_At p l e room_1 s m₀ args below meth c b ba D dA _ _ _ _ _ 1079 [.retAddr 1, .ref 0, .ref 72, .ref 107, .int v4, .retAddr 0, .retAddr 0] [.int r250.1] (sm_hp r250.2)
                                                                                refine j_blk hC bL_law_1079 [.retAddr 1, .ref 0, .ref 72, .ref 107, .int v4, .retAddr 0, .retAddr 0] [] (sm_hp r250.2) [] rfl (sm_on) ?_
                                                                                refine j_goto hC (tgt := 1161) dL_law_1080 rfl ?_
                                                                                refine j_blk hC bL_law_1161 [.retAddr 1, .ref 0, .ref 72, .ref 107, .int (v4 + (5 : Int32)), .retAddr 0, .retAddr 0] [] (sm_hp r250.2) [] rfl (sm_on) ?_
                                                                                refine j_goto hC (tgt := 23) dL_law_1164 rfl ?_
                                                                                exact sm_At.room (by omega) (by omega) (ih (v4 + (5 : Int32)) r250.2 hf)
                                                                              · replace hf := sm_iff hc244 hf
                                                                                by_cases hc251 : ((xs (v4).toNatClampNeg) &&& (63 : Int32)) = (37 : Int32)
                                                                                · replace hf := sm_ift hc251 hf
                                                                                  refine j_tableIn hC (off := 1044) (tgt := 1083) dL_law_39 (by rw [hc251]; decide) (by rw [hc251]; decide) (by rw [hc251]; rfl) rfl ?_
                                                                                  refine j_blk hC bL_law_1083 [.retAddr 1, .ref 0, .ref 72, .ref 107, .int v4, .retAddr 0, .retAddr 0] [.int (v4 + (1 : Int32)), .retAddr 1, .ref 0] (sm_hp m) [] rfl (sm_on) ?_
                                                                                  replace hf := sm_ck hf
                                                                                  obtain ⟨q252, hf⟩ := hf
                                                                                  refine j_sld hC hS hbl hbb dL_law_1089 q252 ?_
                                                                                  replace hf := sm_bd hf
                                                                                  obtain ⟨r254, q253, hf⟩ := hf
                                                                                  refine j_callV hC [.int (xs (v4 + (1 : Int32)).toNatClampNeg)] [] (tX11_again (xs (v4 + (1 : Int32)).toNatClampNeg) m r254 q253) (cvL_180 rfl) dL_law_1090 rfl rfl (by decide) (by decide) rfl (Nat.le_of_ble_eq_true rfl) ?_
                                                                                  show sm_At p l e room_1 s m₀ args below meth c b ba D dA _ _ _ _ _ 1093 [.retAddr 1, .ref 0, .ref 72, .ref 107, .int v4, .retAddr 0, .retAddr 0] [.int r254.1] (sm_hp r254.2)
                                                                                  refine j_blk hC bL_law_1093 [.retAddr 1, .ref 0, .ref 72, .ref 107, .int v4, .retAddr 0, .retAddr 0] [.int (v4 + (1 : Int32)), .retAddr 1, .ref 72] (sm_hp r254.2) [] rfl (sm_on) ?_
                                                                                  replace hf := sm_ck hf
                                                                                  obtain ⟨q255, hf⟩ := hf
                                                                                  refine j_sld hC hS hbl hbb dL_law_1100 q255 ?_
                                                                                  replace hf := sm_bd hf
                                                                                  obtain ⟨r257, q256, hf⟩ := hf
                                                                                  refine j_callV hC [.int (xs (v4 + (1 : Int32)).toNatClampNeg)] [] (tX12_again (xs (v4 + (1 : Int32)).toNatClampNeg) r254.2 r257 q256) (cvL_183 rfl) dL_law_1101 rfl rfl (by decide) (by decide) rfl (Nat.le_of_ble_eq_true rfl) ?_
                                                                                  show sm_At p l e room_1 s m₀ args below meth c b ba D dA _ _ _ _ _ 1104 [.retAddr 1, .ref 0, .ref 72, .ref 107, .int v4, .retAddr 0, .retAddr 0] [.int r257.1] (sm_hp r257.2)
                                                                                  refine j_blk hC bL_law_1104 [.retAddr 1, .ref 0, .ref 72, .ref 107, .int v4, .retAddr 0, .retAddr 0] [] (sm_hp r257.2) [] rfl (sm_on) ?_
                                                                                  refine j_goto hC (tgt := 1161) dL_law_1105 rfl ?_
                                                                                  refine j_blk hC bL_law_1161 [.retAddr 1, .ref 0, .ref 72, .ref 107, .int (v4 + (5 : Int32)), .retAddr 0, .retAddr 0] [] (sm_hp r257.2) [] rfl (sm_on) ?_
                                                                                  refine j_goto hC (tgt := 23) dL_law_1164 rfl ?_
                                                                                  exact sm_At.room (by omega) (by omega) (ih (v4 + (5 : Int32)) r257.2 hf)
                                                                                · replace hf := sm_iff hc251 hf
                                                                                  by_cases hc258 : ((xs (v4).toNatClampNeg) &&& (63 : Int32)) = (38 : Int32)
                                                                                  · replace hf := sm_ift hc258 hf
                                                                                    refine j_tableIn hC (off := 1069) (tgt := 1108) dL_law_39 (by rw [hc258]; decide) (by rw [hc258]; decide) (by rw [hc258]; rfl) rfl ?_
                                                                                    refine j_blk hC bL_law_1108 [.retAddr 1, .ref 0, .ref 72, .ref 107, .int v4, .retAddr 0, .retAddr 0] [.int (v4 + (1 : Int32)), .retAddr 1, .ref 0] (sm_hp m) [] rfl (sm_on) ?_
                                                                                    replace hf := sm_ck hf
                                                                                    obtain ⟨q259, hf⟩ := hf
                                                                                    refine j_sld hC hS hbl hbb dL_law_1114 q259 ?_
                                                                                    replace hf := sm_bd hf
                                                                                    obtain ⟨r261, q260, hf⟩ := hf
                                                                                    refine j_callV hC [.int (xs (v4 + (1 : Int32)).toNatClampNeg)] [] (tX11_count (xs (v4 + (1 : Int32)).toNatClampNeg) m r261 q260) (cvL_184 rfl) dL_law_1115 rfl rfl (by decide) (by decide) rfl (Nat.le_of_ble_eq_true rfl) ?_
                                                                                    show sm_At p l e room_1 s m₀ args below meth c b ba D dA _ _ _ _ _ 1118 [.retAddr 1, .ref 0, .ref 72, .ref 107, .int v4, .retAddr 0, .retAddr 0] [.int r261] (sm_hp m)
                                                                                    refine j_blk hC bL_law_1118 [.retAddr 1, .ref 0, .ref 72, .ref 107, .int v4, .retAddr 0, .retAddr 0] [.int (v4 + (1 : Int32)), .retAddr 1, .ref 72] (sm_hp m) [] rfl (sm_on) ?_
                                                                                    replace hf := sm_ck hf
                                                                                    obtain ⟨q262, hf⟩ := hf
                                                                                    refine j_sld hC hS hbl hbb dL_law_1125 q262 ?_
                                                                                    replace hf := sm_bd hf
                                                                                    obtain ⟨r264, q263, hf⟩ := hf
                                                                                    refine j_callV hC [.int (xs (v4 + (1 : Int32)).toNatClampNeg)] [] (tX12_count (xs (v4 + (1 : Int32)).toNatClampNeg) m r264 q263) (cvL_187 rfl) dL_law_1126 rfl rfl (by decide) (by decide) rfl (Nat.le_of_ble_eq_true rfl) ?_
                                                                                    show sm_At p l e room_1 s m₀ args below meth c b ba D dA _ _ _ _ _ 1129 [.retAddr 1, .ref 0, .ref 72, .ref 107, .int v4, .retAddr 0, .retAddr 0] [.int r264.1] (sm_hp r264.2)
                                                                                    refine j_blk hC bL_law_1129 [.retAddr 1, .ref 0, .ref 72, .ref 107, .int v4, .retAddr 0, .retAddr 0] [] (sm_hp r264.2) [] rfl (sm_on) ?_
                                                                                    refine j_goto hC (tgt := 1161) dL_law_1130 rfl ?_
                                                                                    refine j_blk hC bL_law_1161 [.retAddr 1, .ref 0, .ref 72, .ref 107, .int (v4 + (5 : Int32)), .retAddr 0, .retAddr 0] [] (sm_hp r264.2) [] rfl (sm_on) ?_
                                                                                    refine j_goto hC (tgt := 23) dL_law_1164 rfl ?_
                                                                                    exact sm_At.room (by omega) (by omega) (ih (v4 + (5 : Int32)) r264.2 hf)
                                                                                  · replace hf := sm_iff hc258 hf
                                                                                    by_cases hc265 : ((xs (v4).toNatClampNeg) &&& (63 : Int32)) = (39 : Int32)
                                                                                    · replace hf := sm_ift hc265 hf
                                                                                      refine j_tableIn hC (off := 1094) (tgt := 1133) dL_law_39 (by rw [hc265]; decide) (by rw [hc265]; decide) (by rw [hc265]; rfl) rfl ?_
                                                                                      refine j_blk hC bL_law_1133 [.retAddr 1, .ref 0, .ref 72, .ref 107, .int v4, .retAddr 0, .retAddr 0] [.int (v4 + (1 : Int32)), .retAddr 1, .ref 0] (sm_hp m) [] rfl (sm_on) ?_
                                                                                      replace hf := sm_ck hf
                                                                                      obtain ⟨q266, hf⟩ := hf
                                                                                      refine j_sld hC hS hbl hbb dL_law_1139 q266 ?_
                                                                                      refine j_blk hC bL_law_1140 [.retAddr 1, .ref 0, .ref 72, .ref 107, .int v4, .retAddr 0, .retAddr 0] [.ref 107, .int (xs (v4 + (1 : Int32)).toNatClampNeg), .ref 0] (sm_hp m) [] rfl (sm_on) ?_
                                                                                      replace hf := sm_bd hf
                                                                                      obtain ⟨r267, q268, hf⟩ := hf
                                                                                      refine sm_At.room (rc' := n + 1) (rs' := 6 * n + 6) (by omega) (by omega) ?_
                                                                                      refine jm_callH (n := 3) [.ref 0, .int (xs (v4 + (1 : Int32)).toNatClampNeg), .ref 107] [] (tL_row hl (xs (v4 + (1 : Int32)).toNatClampNeg) m r267 q268) hC hX ⟨by decide, by decide, by decide +kernel⟩ wmL_188 wsL_row wIL wcwL_row dL_law_1141 rfl rfl (by decide) (by decide) (Nat.le_of_ble_eq_true rfl) ?_
                                                                                      show sm_At p l e room_1 s m₀ args below meth c b ba D dA _ _ _ _ _ 1144 [.retAddr 1, .ref 0, .ref 72, .ref 107, .int v4, .retAddr 0, .retAddr 0] [.int r267.1] (sm_hp r267.2)
                                                                                      refine j_blk hC bL_law_1144 [.retAddr 1, .ref 0, .ref 72, .ref 107, .int v4, .int r267.1, .retAddr 0] [.int (v4 + (1 : Int32)), .retAddr 1, .ref 72] (sm_hp r267.2) [] rfl (sm_on) ?_
                                                                                      replace hf := sm_ck hf
                                                                                      obtain ⟨q269, hf⟩ := hf
                                                                                      refine j_sld hC hS hbl hbb dL_law_1152 q269 ?_
                                                                                      replace hf := sm_bd hf
                                                                                      obtain ⟨r271, q270, hf⟩ := hf
                                                                                      refine j_callV hC [.int (xs (v4 + (1 : Int32)).toNatClampNeg)] [] (tX12_row (xs (v4 + (1 : Int32)).toNatClampNeg) r267.2 r271 q270) (cvL_190 rfl) dL_law_1153 rfl rfl (by decide) (by decide) rfl (Nat.le_of_ble_eq_true rfl) ?_
                                                                                      show sm_At p l e room_1 s m₀ args below meth c b ba D dA _ _ _ _ _ 1156 [.retAddr 1, .ref 0, .ref 72, .ref 107, .int v4, .int r267.1, .retAddr 0] [.int r271.1] (sm_hp r271.2)
                                                                                      refine j_blk hC bL_law_1156 [.retAddr 1, .ref 0, .ref 72, .ref 107, .int v4, .int r267.1, .int r271.1] [] (sm_hp r271.2) [] rfl (sm_on) ?_
                                                                                      refine j_goto hC (tgt := 1161) dL_law_1158 rfl ?_
                                                                                      refine j_blk hC bL_law_1161 [.retAddr 1, .ref 0, .ref 72, .ref 107, .int (v4 + (5 : Int32)), .int r267.1, .int r271.1] [] (sm_hp r271.2) [] rfl (sm_on) ?_
                                                                                      refine j_goto hC (tgt := 23) dL_law_1164 rfl ?_
                                                                                      refine j_wk hC [true, true, true, true, true, false, false] ?_
                                                                                      exact sm_At.room (by omega) (by omega) (ih (v4 + (5 : Int32)) r271.2 hf)
                                                                                    · replace hf := sm_iff hc265 hf
                                                                                      refine j_tableOut hC (tgt := 1161) dL_law_39 (sm_tab (n := 39) [(0 : Int32), (1 : Int32), (2 : Int32), (3 : Int32), (4 : Int32), (5 : Int32), (6 : Int32), (7 : Int32), (8 : Int32), (9 : Int32), (10 : Int32), (11 : Int32), (12 : Int32), (13 : Int32), (14 : Int32), (15 : Int32), (16 : Int32), (17 : Int32), (18 : Int32), (19 : Int32), (20 : Int32), (21 : Int32), (22 : Int32), (23 : Int32), (24 : Int32), (25 : Int32), (26 : Int32), (27 : Int32), (28 : Int32), (29 : Int32), (30 : Int32), (31 : Int32), (32 : Int32), (33 : Int32), (34 : Int32), (35 : Int32), (36 : Int32), (37 : Int32), (38 : Int32), (39 : Int32)] (by decide) (List.forall_mem_cons.mpr ⟨hc2, List.forall_mem_cons.mpr ⟨hc9, List.forall_mem_cons.mpr ⟨hc16, List.forall_mem_cons.mpr ⟨hc21, List.forall_mem_cons.mpr ⟨hc30, List.forall_mem_cons.mpr ⟨hc39, List.forall_mem_cons.mpr ⟨hc50, List.forall_mem_cons.mpr ⟨hc63, List.forall_mem_cons.mpr ⟨hc70, List.forall_mem_cons.mpr ⟨hc77, List.forall_mem_cons.mpr ⟨hc82, List.forall_mem_cons.mpr ⟨hc89, List.forall_mem_cons.mpr ⟨hc94, List.forall_mem_cons.mpr ⟨hc101, List.forall_mem_cons.mpr ⟨hc108, List.forall_mem_cons.mpr ⟨hc115, List.forall_mem_cons.mpr ⟨hc120, List.forall_mem_cons.mpr ⟨hc127, List.forall_mem_cons.mpr ⟨hc132, List.forall_mem_cons.mpr ⟨hc137, List.forall_mem_cons.mpr ⟨hc144, List.forall_mem_cons.mpr ⟨hc149, List.forall_mem_cons.mpr ⟨hc154, List.forall_mem_cons.mpr ⟨hc159, List.forall_mem_cons.mpr ⟨hc168, List.forall_mem_cons.mpr ⟨hc177, List.forall_mem_cons.mpr ⟨hc186, List.forall_mem_cons.mpr ⟨hc191, List.forall_mem_cons.mpr ⟨hc198, List.forall_mem_cons.mpr ⟨hc205, List.forall_mem_cons.mpr ⟨hc214, List.forall_mem_cons.mpr ⟨hc219, List.forall_mem_cons.mpr ⟨hc224, List.forall_mem_cons.mpr ⟨hc229, List.forall_mem_cons.mpr ⟨hc234, List.forall_mem_cons.mpr ⟨hc239, List.forall_mem_cons.mpr ⟨hc244, List.forall_mem_cons.mpr ⟨hc251, List.forall_mem_cons.mpr ⟨hc258, List.forall_mem_cons.mpr ⟨hc265, fun _ h => absurd h List.not_mem_nil⟩⟩⟩⟩⟩⟩⟩⟩⟩⟩⟩⟩⟩⟩⟩⟩⟩⟩⟩⟩⟩⟩⟩⟩⟩⟩⟩⟩⟩⟩⟩⟩⟩⟩⟩⟩⟩⟩⟩⟩)) rfl ?_
                                                                                      refine j_blk hC bL_law_1161 [.retAddr 1, .ref 0, .ref 72, .ref 107, .int (v4 + (5 : Int32)), .retAddr 0, .retAddr 0] [] (sm_hp m) [] rfl (sm_on) ?_
                                                                                      refine j_goto hC (tgt := 23) dL_law_1164 rfl ?_
                                                                                      exact sm_At.room (by omega) (by omega) (ih (v4 + (5 : Int32)) m hf)
